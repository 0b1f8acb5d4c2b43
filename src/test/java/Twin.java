import java.util.ArrayDeque;
import java.util.ArrayList;
import java.util.Arrays;
import java.util.HashMap;
import java.util.HashSet;
import java.util.List;
import java.util.Map;
import java.util.NoSuchElementException;
import java.util.Set;
import java.util.TreeMap;

/**
 * The document told a second time, as slowly and plainly as can be and by other means than OwedDays:
 * all sets of stretches for ways, whole copies for undo, splitting of texts for laws.
 */
public final class Twin {
    private static final int NONE = -1;
    private static final int HIDDEN = -1000000;

    /** What an IMAGE keeps and an ACT changes. */
    private static final class Now {
        int[] wear;
        int[] wet;
        int[] owed;
        int[] debt;
        int box;
        int season;
        int worked;
        List<int[]> log = new ArrayList<>();

        Now copy() {
            Now n = new Now();
            n.wear = wear.clone();
            n.wet = wet.clone();
            n.owed = owed.clone();
            n.debt = debt.clone();
            n.box = box;
            n.season = season;
            n.worked = worked;
            n.log = new ArrayList<>(log);
            return n;
        }
    }

    private StringBuilder tape = new StringBuilder();
    private final List<String> laws = new ArrayList<>();
    private int holds = NONE;
    private final int[] status = new int[5];
    private List<Map<Character, Integer>> roads = null;
    private List<Map<Character, Integer>> homes = null;
    private Map<Character, Integer> rules = null;
    private Now now = null;
    private Now image = null;
    private List<Now> acts = new ArrayList<>();
    private List<Object[]> seen = new ArrayList<>();

    public int feed(int a, int b, int c, int d, int e) {
        StringBuilder more = new StringBuilder();
        for (int number : new int[] {a, b, c, d, e}) {
            for (byte sign : java.nio.ByteBuffer.allocate(4).putInt(number).array()) {
                if (sign != 0) {
                    more.append((char) (sign & 0xff));
                }
            }
        }
        if (tape.length() + more.length() > 240) {
            return NONE;
        }
        tape.append(more);
        return tape.length();
    }

    public boolean end(int n) {
        if (n < 0 || n > tape.length()) {
            return false;
        }
        tape = new StringBuilder(tape.substring(0, n));
        return true;
    }

    public int fault(int sort) {
        if (sort == 0) {
            return parishFault(tape.toString());
        }
        return sort == 1 ? new Earley(tape.toString()).fault() : -2;
    }

    public int text(int sort) {
        if (sort < 0 || sort > 1 || fault(sort) != NONE) {
            return NONE;
        }
        String text = tape.toString();
        if (sort == 1) {
            if (laws.size() == 4) {
                return NONE;
            }
            laws.add(text.replace(" ", ""));
            tape = new StringBuilder();
            return laws.size() - 1;
        }
        tape = new StringBuilder();
        rules = new HashMap<>(Map.of('d', 6, 'f', 2, 'p', 3));
        roads = new ArrayList<>();
        homes = new ArrayList<>();
        for (String clause : text.replace(" ", "").split(";")) {
            Map<Character, Integer> into;
            if (clause.charAt(0) == 's') {
                into = rules;
            } else if (clause.charAt(0) == 'r') {
                into = new HashMap<>(Map.of('a', 0, 'b', 1, 'w', 20, 'e', 2, 'u', 3));
                roads.add(into);
            } else {
                into = new HashMap<>(Map.of('c', 0, 'q', 3, 'z', 5));
                homes.add(into);
            }
            for (String item : clause.substring(1).split("(?=[a-z])")) {
                if (!item.isEmpty()) {
                    into.put(item.charAt(0), Integer.parseInt(item.substring(1)));
                }
            }
        }
        now = new Now();
        now.wear = roads.stream().mapToInt(r -> r.get('w')).toArray();
        now.wet = roads.stream().mapToInt(r -> r.get('e')).toArray();
        now.owed = homes.stream().mapToInt(h -> rules.get('d')).toArray();
        now.debt = new int[homes.size()];
        image = null;
        acts.clear();
        seen.clear();
        return roads.size();
    }

    /** Token by token: clause letters, item letters with numbers, and ; between. */
    private static int parishFault(String text) {
        List<int[]> tokens = new ArrayList<>();
        for (int i = 0; i < text.length(); i++) {
            if (text.charAt(i) != ' ') {
                tokens.add(new int[] {text.charAt(i), i});
            }
        }
        Map<Character, String> items = Map.of('s', "dfp", 'r', "abweu", 'h', "cqz");
        Map<Character, Integer> left = new HashMap<>(Map.of('s', 1, 'r', 9, 'h', 6));
        String bounds = "sd19 sf09 sp09 ra07 rb07 re09 ru09 hc07 hq19 hz09 ";
        char clause = 0;
        Set<Character> had = new HashSet<>();
        boolean loop = false;
        int a = 0;
        int b = 1;
        int t = 0;
        while (t < tokens.size()) {
            char c = (char) tokens.get(t)[0];
            int at = tokens.get(t)[1];
            if (clause == 0) {
                if (!left.containsKey(c) || left.get(c) == 0) {
                    return at;
                }
                left.merge(c, -1, Integer::sum);
                clause = c;
                had.clear();
                a = 0;
                b = 1;
                t++;
            } else if (c == ';') {
                loop |= clause == 'r' && a == b;
                clause = 0;
                t++;
            } else {
                if (items.get(clause).indexOf(c) < 0 || !had.add(c)) {
                    return at;
                }
                t++;
                if (t == tokens.size()) {
                    return text.length();
                }
                int first = tokens.get(t)[1];
                int last = first;
                while (last < text.length() && Character.digit(text.charAt(last), 10) >= 0 && text.charAt(last) < 128) {
                    last++;
                    t++;
                }
                if (last == first) {
                    return first;
                }
                if (last - first > 2) {
                    return first + 2;
                }
                int number = Integer.parseInt(text.substring(first, last));
                int where = bounds.indexOf("" + clause + c);
                int low = where < 0 ? 0 : bounds.charAt(where + 2) - '0';
                int high = where < 0 ? 99 : bounds.charAt(where + 3) - '0';
                if (number < low || number > high) {
                    return last - 1;
                }
                if (c == 'a') {
                    a = number;
                } else if (c == 'b') {
                    b = number;
                }
            }
        }
        loop |= clause == 'r' && a == b;
        boolean bare = left.get('r') == 9 || left.get('h') == 6;
        return clause == 0 || loop || bare ? text.length() : NONE;
    }

    /** All derivations side by side, byte by byte: the first byte that none takes is the FAULT. */
    private static final class Earley {
        private final String text;
        private final Map<String, List<String[]>> rules = new HashMap<>();

        Earley(String text) {
            this.text = text;
            rule("Law", "Clause");
            rule("Law", "Law ;_ Clause");
            rule("Clause", "y_ :_ Cond0 ?_ Sum0");
            rule("Clause", "y_ :_ Sum0");
            for (int d = 0; d <= 6; d++) {
                rule("Cond" + d, "Truth" + d);
                rule("Cond" + d, "Cond" + d + " |_ Truth" + d);
                rule("Truth" + d, "Unit" + d);
                rule("Truth" + d, "Truth" + d + " &_ Unit" + d);
                for (String sign : new String[] {"=_", "<_", ">_"}) {
                    rule("Unit" + d, "Sum" + d + " " + sign + " Sum" + d);
                }
                rule("Sum" + d, "Term" + d);
                rule("Sum" + d, "Sum" + d + " +_ Term" + d);
                rule("Sum" + d, "Sum" + d + " -_ Term" + d);
                rule("Term" + d, "Atom" + d);
                rule("Term" + d, "Term" + d + " *_ Atom" + d);
                rule("Term" + d, "Term" + d + " /_ Atom" + d);
                for (String letter : "q z h w e s".split(" ")) {
                    rule("Atom" + d, letter + "_");
                }
                rule("Atom" + d, "9");
                rule("Atom" + d, "9 9");
                rule("Atom" + d, "9 9 9");
                rule("Atom" + d, "9 9 9 9");
                if (d < 6) {
                    rule("Unit" + d, "!_ Unit" + (d + 1));
                    rule("Unit" + d, "(_ Cond" + (d + 1) + " )_");
                    rule("Atom" + d, "[_ Sum" + (d + 1) + " ]_");
                }
            }
        }

        private void rule(String left, String right) {
            rules.computeIfAbsent(left, k -> new ArrayList<>()).add(right.split(" "));
        }

        private record Item(String left, String[] right, int dot, int from) {
            String key() {
                return left + " " + Arrays.hashCode(right) + Arrays.toString(right) + " " + dot + " " + from;
            }
        }

        int fault() {
            List<List<Item>> rows = new ArrayList<>();
            rows.add(new ArrayList<>());
            Set<String> had = new HashSet<>();
            for (String[] right : rules.get("Law")) {
                add(rows.get(0), had, new Item("Law", right, 0, 0));
            }
            complete(rows, 0, had);
            boolean afterBlank = false;
            int row = 0;
            for (int i = 0; i < text.length(); i++) {
                char c = text.charAt(i);
                if (c == ' ') {
                    afterBlank = true;
                    continue;
                }
                List<Item> next = new ArrayList<>();
                had = new HashSet<>();
                for (Item item : rows.get(row)) {
                    if (item.dot < item.right.length && takes(item.right[item.dot], c)) {
                        boolean within = item.right[item.dot].equals("9") && item.dot > 0;
                        if (!within || !afterBlank) {
                            add(next, had, new Item(item.left, item.right, item.dot + 1, item.from));
                        }
                    }
                }
                if (next.isEmpty()) {
                    return i;
                }
                rows.add(next);
                row++;
                complete(rows, row, had);
                afterBlank = false;
            }
            for (Item item : rows.get(row)) {
                if (item.left.equals("Law") && item.dot == item.right.length && item.from == 0) {
                    return NONE;
                }
            }
            return text.length();
        }

        private static boolean takes(String symbol, char c) {
            if (symbol.equals("9")) {
                return c >= '0' && c <= '9';
            }
            return symbol.length() == 2 && symbol.charAt(1) == '_' && symbol.charAt(0) == c;
        }

        private void complete(List<List<Item>> rows, int at, Set<String> had) {
            List<Item> row = rows.get(at);
            for (int i = 0; i < row.size(); i++) {
                Item item = row.get(i);
                if (item.dot == item.right.length) {
                    List<Item> back = rows.get(item.from);
                    for (int j = 0; j < back.size(); j++) {
                        Item waiting = back.get(j);
                        if (waiting.dot < waiting.right.length && waiting.right[waiting.dot].equals(item.left)) {
                            add(row, had, new Item(waiting.left, waiting.right, waiting.dot + 1, waiting.from));
                        }
                    }
                } else if (rules.containsKey(item.right[item.dot])) {
                    for (String[] right : rules.get(item.right[item.dot])) {
                        add(row, had, new Item(item.right[item.dot], right, 0, at));
                    }
                }
            }
        }

        private static void add(List<Item> row, Set<String> had, Item item) {
            if (had.add(item.key())) {
                row.add(item);
            }
        }
    }

    private static boolean cond(String text, Map<Character, Integer> letters) {
        int or = lastOutside(text, "|");
        if (or >= 0) {
            return cond(text.substring(0, or), letters) | cond(text.substring(or + 1), letters);
        }
        int and = lastOutside(text, "&");
        if (and >= 0) {
            return cond(text.substring(0, and), letters) & cond(text.substring(and + 1), letters);
        }
        if (text.charAt(0) == '!') {
            return !cond(text.substring(1), letters);
        }
        if (text.charAt(0) == '(') {
            return cond(text.substring(1, text.length() - 1), letters);
        }
        int at = lastOutside(text, "=<>");
        long left = sum(text.substring(0, at), letters);
        long right = sum(text.substring(at + 1), letters);
        char sign = text.charAt(at);
        return sign == '=' ? left == right : sign == '<' ? left < right : left > right;
    }

    private static long sum(String text, Map<Character, Integer> letters) {
        int at = lastOutside(text, "+-");
        if (at < 0) {
            at = lastOutside(text, "*/");
        }
        if (at >= 0) {
            long left = sum(text.substring(0, at), letters);
            long right = sum(text.substring(at + 1), letters);
            long is = switch (text.charAt(at)) {
                case '+' -> left + right;
                case '-' -> left - right;
                case '*' -> left * right;
                default -> right == 0 ? 0 : left / right;
            };
            return Math.max(-1000000, Math.min(1000000, is));
        }
        if (text.charAt(0) == '[') {
            return sum(text.substring(1, text.length() - 1), letters);
        }
        return letters.containsKey(text.charAt(0)) ? letters.get(text.charAt(0)) : Long.parseLong(text);
    }

    private static int lastOutside(String text, String signs) {
        int depth = 0;
        for (int i = text.length() - 1; i >= 0; i--) {
            char c = text.charAt(i);
            if (c == ')' || c == ']') {
                depth++;
            } else if (c == '(' || c == '[') {
                depth--;
            } else if (depth == 0 && signs.indexOf(c) >= 0) {
                return i;
            }
        }
        return -1;
    }

    private static long worthBy(String law, Map<Character, Integer> letters) {
        for (String clause : law.split(";")) {
            String body = clause.substring(2);
            int ask = body.indexOf('?');
            if (ask < 0 || cond(body.substring(0, ask), letters)) {
                return sum(body.substring(ask + 1), letters);
            }
        }
        return 0;
    }

    private boolean noStretch(int s) {
        return now == null || s < 0 || s >= roads.size();
    }

    private boolean noHouse(int h) {
        return now == null || h < 0 || h >= homes.size();
    }

    public int rule(int what) {
        return now == null || what < 0 || what > 2 ? NONE : rules.get("dfp".charAt(what));
    }

    public int stretch(int stretch, int what) {
        if (noStretch(stretch) || what < 0 || what > 4) {
            return NONE;
        }
        if (what == 2) {
            return now.wear[stretch];
        }
        return what == 3 ? now.wet[stretch] : roads.get(stretch).get("abweu".charAt(what));
    }

    public int house(int house, int what) {
        if (noHouse(house) || what < 0 || what > 4) {
            throw new NoSuchElementException();
        }
        if (what < 3) {
            return homes.get(house).get("cqz".charAt(what));
        }
        return what == 3 ? now.owed[house] : now.debt[house];
    }

    public boolean law(int law) {
        if (law < -1 || law >= laws.size()) {
            return false;
        }
        holds = law;
        return true;
    }

    private int[] stepsFrom(int place) {
        int[] steps = new int[8];
        Arrays.fill(steps, NONE);
        steps[place] = 0;
        ArrayDeque<Integer> queue = new ArrayDeque<>(List.of(place));
        while (!queue.isEmpty()) {
            int at = queue.poll();
            for (Map<Character, Integer> r : roads) {
                for (int turn = 0; turn < 2; turn++) {
                    int from = r.get(turn == 0 ? 'a' : 'b');
                    int to = r.get(turn == 0 ? 'b' : 'a');
                    if (from == at && steps[to] == NONE) {
                        steps[to] = steps[at] + 1;
                        queue.add(to);
                    }
                }
            }
        }
        return steps;
    }

    public int haul(int house, int stretch) {
        if (noHouse(house) || noStretch(stretch)) {
            return NONE;
        }
        int[] steps = stepsFrom(homes.get(house).get('c'));
        int a = steps[roads.get(stretch).get('a')];
        int b = steps[roads.get(stretch).get('b')];
        return a == NONE ? NONE : Math.min(a, b);
    }

    private int doesAt(int house, int stretch, int kind, int wear) {
        int full;
        if (kind == 2) {
            full = 8;
        } else if (haul(house, stretch) == NONE) {
            return NONE;
        } else {
            int cart = homes.get(house).get('q');
            long worth = 2L * cart - haul(house, stretch);
            if (holds != NONE) {
                worth = worthBy(laws.get(holds), Map.of('q', cart, 'z', homes.get(house).get('z'), 'h',
                        haul(house, stretch), 'w', wear, 'e', now.wet[stretch], 's', now.season % 4));
            }
            full = (int) Math.max(0, Math.min(99, worth));
            full = kind == 0 ? full : kind == 1 ? full / 2 : 0;
        }
        return now.season % 4 == 3 ? full / 2 : full;
    }

    public int does(int house, int stretch, int kind) {
        if (noHouse(house) || noStretch(stretch) || kind < 0 || kind > 3) {
            return NONE;
        }
        return doesAt(house, stretch, kind, now.wear[stretch]);
    }

    private int refuse(int why) {
        status[why]++;
        return NONE;
    }

    private void keep() {
        acts.add(now.copy());
        if (acts.size() > 40) {
            acts.remove(0);
        }
    }

    private void workNow(int house, int stretch, int kind) {
        now.wear[stretch] = Math.max(0, now.wear[stretch] - does(house, stretch, kind));
        now.owed[house]--;
        now.worked++;
        now.box += kind == 2 ? rules.get('p') : 0;
    }

    public int work(int house, int stretch, int kind) {
        if (noHouse(house) || noStretch(stretch)) {
            return refuse(0);
        }
        if (kind < 0 || kind > 3) {
            return refuse(1);
        }
        if (now.owed[house] == 0 || kind != 2 && haul(house, stretch) == NONE) {
            return refuse(2);
        }
        keep();
        workNow(house, stretch, kind);
        return now.wear[stretch];
    }

    public int pay(int house, int n) {
        if (noHouse(house)) {
            return refuse(0);
        }
        if (n < 1 || n > 9) {
            return refuse(1);
        }
        if (now.owed[house] < n) {
            return refuse(2);
        }
        keep();
        now.owed[house] -= n;
        now.box += n * rules.get('p');
        return now.box;
    }

    public int ditch(int stretch) {
        if (noStretch(stretch)) {
            return refuse(0);
        }
        if (now.box < 2 || now.wet[stretch] == 0) {
            return refuse(3);
        }
        keep();
        now.box -= 2;
        now.wet[stretch]--;
        int b = roads.get(stretch).get('b');
        for (int s = 0; s < roads.size(); s++) {
            if (s != stretch && (roads.get(s).get('a') == b || roads.get(s).get('b') == b)) {
                now.wet[s] = Math.min(9, now.wet[s] + 1);
            }
        }
        return now.wet[stretch];
    }

    private void season() {
        for (int s = 0; s < roads.size(); s++) {
            int more = roads.get(s).get('u') + (now.season % 4 == 3 ? rules.get('f') + now.wet[s] : 0);
            now.wear[s] = Math.min(99, now.wear[s] + more);
        }
        now.season++;
        if (now.season % 4 == 0) {
            for (int h = 0; h < homes.size(); h++) {
                now.debt[h] = Math.min(999, now.debt[h] + now.owed[h]);
                now.owed[h] = rules.get('d');
            }
        }
        int all = Arrays.stream(now.wear).sum();
        int bad = (int) Arrays.stream(now.wear).filter(w -> w >= 60).count();
        now.log.add(0, new int[] {all, bad, now.worked});
        if (now.log.size() > 60) {
            now.log.remove(60);
        }
        now.worked = 0;
    }

    public int seasons(int n) {
        if (now == null) {
            return refuse(0);
        }
        if (n < 1 || n > 60) {
            return refuse(1);
        }
        if (now.season + n > 3999) {
            return refuse(4);
        }
        for (int i = 0; i < n; i++) {
            keep();
            season();
        }
        return now.season;
    }

    public int years(int n, long seed) {
        if (now == null || n < 1 || n > 60 || now.season + n > 3999) {
            return NONE;
        }
        long[] x = {seed};
        for (int i = 0; i < n; i++) {
            keep();
            for (int h = 0; h < homes.size(); h++) {
                if (now.owed[h] == 0) {
                    continue;
                }
                int at = draw(x, roads.size());
                int kind = draw(x, 10) < homes.get(h).get('z') ? 0 : draw(x, 2) == 0 ? 1 : 3;
                if (haul(h, at) != NONE) {
                    workNow(h, at, kind);
                }
            }
            season();
        }
        return now.season;
    }

    private static int draw(long[] x, int m) {
        x[0] = x[0] * 6364136223846793005L + 1442695040888963407L;
        return (int) (Long.divideUnsigned(x[0], 1L << 33) % m);
    }

    public int status(int what) {
        return what < 0 || what > 4 ? NONE : status[what];
    }

    public int undo() {
        if (acts.isEmpty()) {
            return NONE;
        }
        now = acts.remove(acts.size() - 1);
        return acts.size();
    }

    public int log(int i, int what) {
        return now == null || i < 0 || i >= now.log.size() || what < 0 || what > 2 ? NONE : now.log.get(i)[what];
    }

    public int least(int stretch, int n, int what) {
        if (noStretch(stretch) || n < 0 || n > 99 || what < 0 || what > 1) {
            return NONE;
        }
        // Wears by row, shortest first; of rows to the same wear with the same houses the first is the least.
        List<int[]> level = new ArrayList<>();
        level.add(new int[] {now.wear[stretch], 0});
        List<int[]> owed = new ArrayList<>();
        owed.add(now.owed.clone());
        for (int days = 0; days <= 6; days++) {
            for (int[] l : level) {
                if (l[0] <= n) {
                    return what == 0 ? days : l[1];
                }
            }
            List<int[]> next = new ArrayList<>();
            List<int[]> nextOwed = new ArrayList<>();
            Set<String> had = new HashSet<>();
            for (int i = 0; i < level.size(); i++) {
                for (int h = 0; h < homes.size(); h++) {
                    if (owed.get(i)[h] > 0 && haul(h, stretch) != NONE) {
                        int wear = Math.max(0, level.get(i)[0] - doesAt(h, stretch, 0, level.get(i)[0]));
                        int[] left = owed.get(i).clone();
                        left[h]--;
                        if (had.add(wear + Arrays.toString(left))) {
                            next.add(new int[] {wear, level.get(i)[1] * 10 + h});
                            nextOwed.add(left);
                        }
                    }
                }
            }
            level = next;
            owed = nextOwed;
        }
        return NONE;
    }

    private int placesBy(int bits, int from) {
        int places = 1 << from;
        for (int round = 0; round < 9; round++) {
            for (int s = 0; s < roads.size(); s++) {
                int both = 1 << roads.get(s).get('a') | 1 << roads.get(s).get('b');
                if ((bits >> s & 1) == 1 && (places & both) != 0) {
                    places |= both;
                }
            }
        }
        return places;
    }

    public int way(int one, int other, int what) {
        if (now == null || one < 0 || one > 7 || other < 0 || other > 7 || what < 0 || what > 1) {
            return NONE;
        }
        int best = Integer.MAX_VALUE;
        int by = NONE;
        for (int bits = 0; bits < 1 << roads.size(); bits++) {
            int wear = 0;
            for (int s = 0; s < roads.size(); s++) {
                wear += (bits >> s & 1) * now.wear[s];
            }
            if (wear < best && (placesBy(bits, one) >> other & 1) == 1) {
                best = wear;
                by = bits;
            }
        }
        return by == NONE ? NONE : what == 0 ? best : by;
    }

    public int worth(int house) {
        if (noHouse(house)) {
            return NONE;
        }
        int best = NONE;
        for (int s = roads.size() - 1; s >= 0; s--) {
            if (haul(house, s) != NONE && (best == NONE || does(house, s, 0) >= does(house, best, 0))) {
                best = s;
            }
        }
        return best;
    }

    public int buys() {
        if (now == null) {
            return NONE;
        }
        int bits = 0;
        for (int h = 0; h < homes.size(); h++) {
            boolean buys = true;
            for (int s = 0; s < roads.size(); s++) {
                buys &= does(h, s, 0) < does(h, s, 2);
            }
            bits |= buys ? 1 << h : 0;
        }
        return bits;
    }

    public int game(int one, int other, int stretch, int x, int y, int what) {
        if (noHouse(one) || noHouse(other) || one == other || noStretch(stretch) || what < 0 || what > 1
                || haul(one, stretch) == NONE || haul(other, stretch) == NONE) {
            return HIDDEN;
        }
        if (x < 0 || x > 3 || x == 2 || y < 0 || y > 3 || y == 2) {
            return HIDDEN;
        }
        int both = does(one, stretch, x) + does(other, stretch, y);
        int kind = what == 0 ? x : y;
        return both / 2 - (kind == 0 ? 4 : kind == 1 ? 2 : 0);
    }

    public int rests(int one, int other, int stretch, int i) {
        if (game(one, other, stretch, 0, 0, 0) == HIDDEN) {
            return NONE;
        }
        List<Integer> rests = new ArrayList<>();
        for (int code : new int[] {0, 1, 3, 10, 11, 13, 30, 31, 33}) {
            int x = code / 10;
            int y = code % 10;
            boolean rest = true;
            for (int k : new int[] {0, 1, 3}) {
                rest &= game(one, other, stretch, k, y, 0) <= game(one, other, stretch, x, y, 0);
                rest &= game(one, other, stretch, x, k, 1) <= game(one, other, stretch, x, y, 1);
            }
            if (rest) {
                rests.add(code);
            }
        }
        return i == NONE ? rests.size() : i < 0 || i >= rests.size() ? NONE : rests.get(i);
    }

    public int road(int house) {
        return noHouse(house) ? NONE : Math.max(0, way(homes.get(house).get('c'), 0, 1));
    }

    private int used(int house) {
        int road = road(house);
        int use = 0;
        for (int s = 0; s < roads.size(); s++) {
            use += (road >> s & 1) * roads.get(s).get('u');
        }
        return use;
    }

    private int usedByAll() {
        int use = 0;
        for (int h = 0; h < homes.size(); h++) {
            use += used(h);
        }
        return use;
    }

    public int shares(int house, int c) {
        if (noHouse(house) || c < 0 || c > 999) {
            return NONE;
        }
        return usedByAll() == 0 ? 0 : c * used(house) / usedByAll();
    }

    public int seen(int houses, boolean better) {
        if (now == null || houses < 1 || houses > (1 << homes.size()) - 1 || seen.size() == 10) {
            return NONE;
        }
        seen.add(new Object[] {houses, better});
        return seen.size();
    }

    private List<Integer> fitting(int k) {
        List<Integer> sets = new ArrayList<>();
        for (int set = 0; set < 1 << homes.size(); set++) {
            int members = 0;
            for (int h = 0; h < homes.size(); h++) {
                members += set >> h & 1;
            }
            boolean fits = members == k;
            for (Object[] s : seen) {
                boolean better = false;
                for (int h = 0; h < homes.size(); h++) {
                    better |= ((Integer) s[0] >> h & 1) == 1 && (set >> h & 1) == 0;
                }
                fits &= better == (Boolean) s[1];
            }
            if (fits) {
                sets.add(set);
            }
        }
        return sets;
    }

    public int feigned(int k, int i) {
        if (now == null || k < 0 || k > 3) {
            return NONE;
        }
        List<Integer> sets = fitting(k);
        return i == NONE ? sets.size() : i < 0 || i >= sets.size() ? NONE : sets.get(i);
    }

    public int honest(int k) {
        if (now == null || k < 0 || k > 3 || fitting(k).isEmpty()) {
            return NONE;
        }
        int bits = 0;
        for (int h = 0; h < homes.size(); h++) {
            final int house = h;
            bits |= fitting(k).stream().anyMatch(s -> (s >> house & 1) == 1) ? 0 : 1 << h;
        }
        return bits;
    }

    public int best(int k) {
        if (now == null || k < 0 || k > 3 || fitting(k).isEmpty()) {
            return NONE;
        }
        TreeMap<Integer, Integer> byApart = new TreeMap<>();
        for (int h = 0; h < homes.size(); h++) {
            final int house = h;
            int yes = (int) fitting(k).stream().filter(s -> (s >> house & 1) == 1).count();
            byApart.putIfAbsent(Math.abs(yes - (fitting(k).size() - yes)), h);
        }
        return byApart.firstEntry().getValue();
    }

    public int whose(int stretch, int e) {
        if (noStretch(stretch) || e < 0 || e > 99) {
            return NONE;
        }
        int bits = 0;
        for (int h = 0; h < homes.size(); h++) {
            bits |= does(h, stretch, 0) == e || does(h, stretch, 1) == e ? 1 << h : 0;
        }
        return bits;
    }

    public int fails(int what) {
        if (now == null || what < 0 || what > 1) {
            return NONE;
        }
        int[] wear = now.wear.clone();
        for (int t = 0; t <= 200; t++) {
            for (int s = 0; s < roads.size(); s++) {
                if (wear[s] == 99) {
                    return what == 0 ? s : t;
                }
            }
            for (int s = 0; s < roads.size(); s++) {
                boolean winter = (now.season + t) % 4 == 3;
                wear[s] = Math.min(99, wear[s] + roads.get(s).get('u') + (winter ? rules.get('f') + now.wet[s] : 0));
            }
        }
        return NONE;
    }

    public int odds(int stretch, int n, int chance) {
        if (noStretch(stretch) || n < 0 || n > 40 || chance < 0 || chance > 100) {
            return NONE;
        }
        Map<Integer, Long> parts = new TreeMap<>(Map.of(now.wear[stretch], 1000000000L));
        int use = roads.get(stretch).get('u');
        int frost = use + rules.get('f') + now.wet[stretch];
        for (int i = 0; i < n; i++) {
            Map<Integer, Long> next = new TreeMap<>();
            parts.forEach((wear, part) -> {
                long with = part * chance / 100;
                next.merge(Math.min(99, wear + frost), with, Long::sum);
                next.merge(Math.min(99, wear + use), part - with, Long::sum);
            });
            parts = next;
        }
        return parts.entrySet().stream().filter(p -> p.getKey() >= 60).mapToInt(p -> p.getValue().intValue()).sum();
    }

    public int toll(int t, int what) {
        if (now == null || t < 1 || t > 9 || what < 0 || what > 1) {
            return NONE;
        }
        int most = 0;
        for (int h = 0; h < homes.size(); h++) {
            most = used(h) * t > used(most) * t ? h : most;
        }
        return what == 0 ? most : usedByAll() * t;
    }

    public int worst() {
        if (now == null) {
            return NONE;
        }
        int most = Arrays.stream(now.wear).max().getAsInt();
        for (int s = 0; true; s++) {
            if (now.wear[s] == most) {
                return s;
            }
        }
    }

    public int ends() {
        if (now == null) {
            return NONE;
        }
        int[] degree = new int[8];
        for (Map<Character, Integer> r : roads) {
            degree[r.get('a')]++;
            degree[r.get('b')]++;
        }
        int bits = 0;
        for (int p = 0; p < 8; p++) {
            bits |= degree[p] == 1 ? 1 << p : 0;
        }
        return bits;
    }

    public int cut() {
        if (now == null) {
            return NONE;
        }
        int all = (1 << roads.size()) - 1;
        int bits = 0;
        for (int s = 0; s < roads.size(); s++) {
            bits |= placesBy(all & ~(1 << s), 0) != placesBy(all, 0) ? 1 << s : 0;
        }
        return bits;
    }

    public int neighbours(int stretch) {
        if (noStretch(stretch)) {
            return NONE;
        }
        int bits = 0;
        for (int s = 0; s < roads.size(); s++) {
            Set<Integer> both = new HashSet<>(List.of(roads.get(s).get('a'), roads.get(s).get('b')));
            both.retainAll(Set.of(roads.get(stretch).get('a'), roads.get(stretch).get('b')));
            bits |= s != stretch && !both.isEmpty() ? 1 << s : 0;
        }
        return bits;
    }

    public int image() {
        if (now == null) {
            return NONE;
        }
        image = now.copy();
        return now.season;
    }

    public int back() {
        if (image == null) {
            return NONE;
        }
        now = image.copy();
        acts.clear();
        return now.season;
    }

    public int count(int what) {
        boolean none = now == null;
        return switch (what) {
            case 0 -> none ? 0 : roads.size();
            case 1 -> none ? 0 : homes.size();
            case 2 -> laws.size();
            case 3 -> tape.length();
            case 4 -> holds;
            case 5 -> none ? 0 : now.season;
            case 6 -> none ? 0 : now.box;
            case 7 -> none ? 0 : Arrays.stream(now.wear).sum();
            case 8 -> none ? 0 : Arrays.stream(now.owed).sum();
            case 9 -> none ? 0 : Arrays.stream(now.debt).sum();
            case 10 -> none ? 0 : now.worked;
            case 11 -> seen.size();
            case 12 -> none ? 0 : now.log.size();
            case 13 -> acts.size();
            default -> HIDDEN;
        };
    }
}
