import java.util.Arrays;
import java.util.NoSuchElementException;

/**
 * Six days on the road: a parish whose households owe days of work on its stretches of road.
 *
 * <p>Every row that a call needs is made once, in a constructor, and used again: no call makes an
 * object. A PARISH always has a STRETCH and a HOUSE, so "no PARISH" is a {@link Parish} without any.
 */
public final class OwedDays {
    public static final int NONE = -1;
    public static final int HIDDEN = -1000000;

    private static final int MOST_BYTES = 240;
    private static final int MOST_STRETCHES = 9;
    private static final int MOST_HOUSES = 6;
    private static final int MOST_LAWS = 4;
    private static final int PLACES = 8;

    private static final int MOST_WEAR = 99;
    private static final int WEARS = 100;
    private static final int BAD_WEAR = 60;
    private static final int MOST_WET = 9;
    private static final int MOST_DEBT = 999;
    private static final int LAST_SEASON = 3999;
    private static final int MOST_SEASONS = 60;
    private static final int IN_A_YEAR = 4;
    private static final int WINTER = 3;
    private static final int DITCH_COST = 2;

    private static final int OWN = 0;
    private static final int BOYS = 1;
    private static final int BOUGHT = 2;
    private static final int FEIGNED = 3;
    private static final int KINDS = 4;

    private static final int NO_SUCH_ONE = 0;
    private static final int OUT_OF_BOUNDS = 1;
    private static final int OWES_OR_COMES_NOT = 2;
    private static final int BOX_OR_NOT_WET = 3;
    private static final int TOO_LATE = 4;
    private static final int REASONS = 5;

    /** What parts the days from the row in an answer of LEAST: a row has six digits at most. */
    private static final int ROWS = 1000000;

    private final Tape tape;
    private final Parish parish;
    private final ParishReader parishReader;
    private final LawReader lawReader;
    private final State state;
    private final State kept;
    private boolean isKept;
    private final Past past;
    private final Labour labour;
    private final Roads roads;
    private final Sightings sightings;
    private final Outlook outlook;
    private final int[] refused;

    public OwedDays() {
        tape = new Tape();
        parish = new Parish();
        parishReader = new ParishReader(tape);
        lawReader = new LawReader(tape);
        state = new State();
        kept = new State();
        isKept = false;
        past = new Past();
        labour = new Labour(parish, state);
        roads = new Roads(parish, state);
        sightings = new Sightings(parish);
        outlook = new Outlook(parish, state, labour);
        refused = new int[REASONS];
    }

    public int feed(int a, int b, int c, int d, int e) {
        int more = Tape.signsIn(a) + Tape.signsIn(b) + Tape.signsIn(c) + Tape.signsIn(d) + Tape.signsIn(e);
        if (tape.size() + more > MOST_BYTES) {
            return NONE;
        }
        tape.add(a);
        tape.add(b);
        tape.add(c);
        tape.add(d);
        tape.add(e);
        return tape.size();
    }

    public boolean end(int n) {
        return tape.shorten(n);
    }

    public int fault(int sort) {
        if (sort == 0) {
            return parishReader.firstWrong();
        }
        return sort == 1 ? lawReader.firstWrong() : -2;
    }

    public int text(int sort) {
        if (sort == 0 && parishReader.firstWrong() == NONE) {
            settle();
            return parish.stretches();
        }
        if (sort == 1 && labour.laws() < MOST_LAWS && lawReader.firstWrong() == NONE) {
            tape.shorten(0);
            return labour.addLaw(lawReader.draft());
        }
        return NONE;
    }

    public int rule(int what) {
        if (parish.isNone() || what < 0 || what > 2) {
            return NONE;
        }
        return parish.ofRules(what);
    }

    public int stretch(int stretch, int what) {
        if (!parish.hasStretch(stretch)) {
            return NONE;
        }
        switch (what) {
            case 0:
                return parish.ofStretch(stretch, Parish.A);
            case 1:
                return parish.ofStretch(stretch, Parish.B);
            case 2:
                return state.wear(stretch);
            case 3:
                return state.wet(stretch);
            case 4:
                return parish.ofStretch(stretch, Parish.USE);
            default:
                return NONE;
        }
    }

    public int house(int house, int what) throws NoSuchElementException {
        if (!parish.hasHouse(house)) {
            throw new NoSuchElementException("no such HOUSE");
        }
        switch (what) {
            case 0:
                return parish.ofHouse(house, Parish.PLACE);
            case 1:
                return parish.ofHouse(house, Parish.CART);
            case 2:
                return parish.ofHouse(house, Parish.ZEAL);
            case 3:
                return state.owed(house);
            case 4:
                return state.debt(house);
            default:
                throw new NoSuchElementException("no such what");
        }
    }

    public boolean law(int law) {
        return labour.holdTo(law);
    }

    public int haul(int house, int stretch) {
        if (!parish.hasHouse(house) || !parish.hasStretch(stretch)) {
            return NONE;
        }
        return parish.stepsTo(house, stretch);
    }

    public int does(int house, int stretch, int kind) {
        if (!parish.hasHouse(house) || !parish.hasStretch(stretch) || kind < 0 || kind >= KINDS) {
            return NONE;
        }
        if (!labour.canWork(house, stretch, kind)) {
            return NONE;
        }
        return labour.effect(house, stretch, kind, state.wear(stretch));
    }

    public int work(int house, int stretch, int kind) {
        if (!parish.hasHouse(house) || !parish.hasStretch(stretch)) {
            return refuse(NO_SUCH_ONE);
        }
        if (kind < 0 || kind >= KINDS) {
            return refuse(OUT_OF_BOUNDS);
        }
        if (state.owed(house) < 1 || !labour.canWork(house, stretch, kind)) {
            return refuse(OWES_OR_COMES_NOT);
        }
        past.keep(state);
        labour.workDay(house, stretch, kind);
        return state.wear(stretch);
    }

    public int pay(int house, int n) {
        if (!parish.hasHouse(house)) {
            return refuse(NO_SUCH_ONE);
        }
        if (n < 1 || n > 9) {
            return refuse(OUT_OF_BOUNDS);
        }
        if (state.owed(house) < n) {
            return refuse(OWES_OR_COMES_NOT);
        }
        past.keep(state);
        state.setOwed(house, state.owed(house) - n);
        state.addToBox(n * parish.ofRules(Parish.PRICE));
        return state.box();
    }

    public int ditch(int stretch) {
        if (!parish.hasStretch(stretch)) {
            return refuse(NO_SUCH_ONE);
        }
        if (state.box() < DITCH_COST || state.wet(stretch) < 1) {
            return refuse(BOX_OR_NOT_WET);
        }
        past.keep(state);
        labour.drain(stretch);
        return state.wet(stretch);
    }

    public int seasons(int n) {
        if (parish.isNone()) {
            return refuse(NO_SUCH_ONE);
        }
        if (n < 1 || n > MOST_SEASONS) {
            return refuse(OUT_OF_BOUNDS);
        }
        if (state.season() + n > LAST_SEASON) {
            return refuse(TOO_LATE);
        }
        for (int i = 0; i < n; i++) {
            past.keep(state);
            labour.passSeason();
        }
        return state.season();
    }

    public int years(int n, long seed) {
        if (parish.isNone() || n < 1 || n > MOST_SEASONS || state.season() + n > LAST_SEASON) {
            return NONE;
        }
        labour.sow(seed);
        for (int i = 0; i < n; i++) {
            past.keep(state);
            labour.workDrawnDays();
            labour.passSeason();
        }
        return state.season();
    }

    public int status(int what) {
        return what >= 0 && what < REASONS ? refused[what] : NONE;
    }

    public int undo() {
        return past.bringBack(state) ? past.size() : NONE;
    }

    public int log(int i, int what) {
        return state.logged(i, what);
    }

    public int least(int stretch, int n, int what) {
        if (!parish.hasStretch(stretch) || n < 0 || n > MOST_WEAR || what < 0 || what > 1) {
            return NONE;
        }
        int found = outlook.fewestDays(stretch, n);
        if (found == NONE) {
            return NONE;
        }
        return what == 0 ? found / ROWS : found % ROWS;
    }

    public int way(int one, int other, int what) {
        if (parish.isNone() || one < 0 || one >= PLACES || other < 0 || other >= PLACES) {
            return NONE;
        }
        roads.spreadFrom(one);
        if (!roads.reaches(other)) {
            return NONE;
        }
        if (what == 0) {
            return roads.wearTo(other);
        }
        return what == 1 ? roads.stretchesTo(other) : NONE;
    }

    public int worth(int house) {
        return parish.hasHouse(house) ? labour.mostWorth(house) : NONE;
    }

    public int buys() {
        return parish.isNone() ? NONE : labour.buyers();
    }

    public int game(int one, int other, int stretch, int x, int y, int what) {
        if (!labour.canMeet(one, other, stretch) || !isPlayed(x) || !isPlayed(y) || what < 0 || what > 1) {
            return HIDDEN;
        }
        outlook.setUpGame(one, other, stretch);
        return what == 0 ? outlook.ones(x, y) : outlook.others(x, y);
    }

    public int rests(int one, int other, int stretch, int i) {
        if (!labour.canMeet(one, other, stretch) || i < NONE) {
            return NONE;
        }
        outlook.setUpGame(one, other, stretch);
        return outlook.restAt(i);
    }

    public int road(int house) {
        if (!parish.hasHouse(house)) {
            return NONE;
        }
        roads.spreadFrom(0);
        return roads.roadOf(house);
    }

    public int shares(int house, int c) {
        if (!parish.hasHouse(house) || c < 0 || c > 999) {
            return NONE;
        }
        roads.spreadFrom(0);
        int all = roads.useOfAll();
        return all == 0 ? 0 : c * roads.useOf(house) / all;
    }

    public int seen(int houses, boolean better) {
        return sightings.add(houses, better);
    }

    public int feigned(int k, int i) {
        if (!sightings.canAsk(k) || i < NONE) {
            return NONE;
        }
        return i == NONE ? sightings.fitting(k) : sightings.fittingAt(k, i);
    }

    public int honest(int k) {
        if (!sightings.canAsk(k) || sightings.fitting(k) == 0) {
            return NONE;
        }
        return sightings.inNone(k);
    }

    public int best(int k) {
        if (!sightings.canAsk(k) || sightings.fitting(k) == 0) {
            return NONE;
        }
        return sightings.toWatch(k);
    }

    public int whose(int stretch, int e) {
        if (!parish.hasStretch(stretch) || e < 0 || e > MOST_WEAR) {
            return NONE;
        }
        return labour.doersOf(stretch, e);
    }

    public int fails(int what) {
        if (parish.isNone() || what < 0 || what > 1) {
            return NONE;
        }
        int first = outlook.firstToFail();
        if (first == NONE) {
            return NONE;
        }
        return what == 0 ? first : outlook.seasonsTillFull(first);
    }

    public int odds(int stretch, int n, int chance) {
        if (!parish.hasStretch(stretch) || n < 0 || n > 40 || chance < 0 || chance > 100) {
            return NONE;
        }
        return outlook.badParts(stretch, n, chance);
    }

    public int toll(int t, int what) {
        if (parish.isNone() || t < 1 || t > 9 || what < 0 || what > 1) {
            return NONE;
        }
        roads.spreadFrom(0);
        return what == 0 ? roads.mostUsing() : t * roads.useOfAll();
    }

    public int worst() {
        return parish.isNone() ? NONE : roads.mostWorn();
    }

    public int ends() {
        return parish.isNone() ? NONE : roads.deadEnds();
    }

    public int cut() {
        return parish.isNone() ? NONE : roads.bridges();
    }

    public int neighbours(int stretch) {
        return parish.hasStretch(stretch) ? roads.touching(stretch) : NONE;
    }

    public int image() {
        if (parish.isNone()) {
            return NONE;
        }
        kept.takeAll(state);
        isKept = true;
        return state.season();
    }

    public int back() {
        if (!isKept) {
            return NONE;
        }
        state.takeAll(kept);
        past.forget();
        return state.season();
    }

    public int count(int what) {
        switch (what) {
            case 0:
                return parish.stretches();
            case 1:
                return parish.houses();
            case 2:
                return labour.laws();
            case 3:
                return tape.size();
            case 4:
                return labour.holding();
            case 5:
                return state.season();
            case 6:
                return state.box();
            case 7:
                return state.allWear();
            case 8:
                return state.allOwed();
            case 9:
                return state.allDebt();
            case 10:
                return state.worked();
            case 11:
                return sightings.size();
            case 12:
                return state.logLength();
            case 13:
                return past.size();
            default:
                return HIDDEN;
        }
    }

    /** The draft that was read becomes the PARISH; what belonged to the one before goes with it. */
    private void settle() {
        tape.shorten(0);
        parish.take(parishReader.draft());
        state.begin(parish);
        past.forget();
        sightings.forget();
        isKept = false;
    }

    private int refuse(int reason) {
        if (reason >= 0 && reason < REASONS) {
            refused[reason]++;
        }
        return NONE;
    }

    /** A GAME has no BOUGHT days. */
    private static boolean isPlayed(int kind) {
        return kind == OWN || kind == BOYS || kind == FEIGNED;
    }

    /** The bytes that came by feed; none of them is 0, so a sign of 0 tells that it has ended. */
    private static final class Tape {
        private final byte[] bytes;
        private int length;

        Tape() {
            bytes = new byte[MOST_BYTES];
            length = 0;
        }

        static int signsIn(int number) {
            int signs = 0;
            for (int shift = 24; shift >= 0; shift -= 8) {
                if ((number >>> shift & 255) != 0) {
                    signs++;
                }
            }
            return signs;
        }

        void add(int number) {
            for (int shift = 24; shift >= 0; shift -= 8) {
                int sign = number >>> shift & 255;
                if (sign != 0 && length < MOST_BYTES) {
                    bytes[length] = (byte) sign;
                    length++;
                }
            }
        }

        boolean shorten(int n) {
            if (n < 0 || n > length) {
                return false;
            }
            length = n;
            return true;
        }

        int size() {
            return length;
        }

        int sign(int at) {
            return at >= 0 && at < length ? bytes[at] & 255 : 0;
        }

        boolean isDigit(int at) {
            int sign = sign(at);
            return sign >= '0' && sign <= '9';
        }

        /** Reads the bytes themselves: the readers stand so deep that one call more would be too many. */
        int pastBlanks(int from) {
            int at = from < 0 ? 0 : from;
            while (at < length && bytes[at] == ' ') {
                at++;
            }
            return at;
        }
    }

    /** What a TEXT told, as rows of five: the RULES, then the STRETCHES, then the HOUSES. */
    private static final class Parish {
        static final int DAYS = 0;
        static final int FROST = 1;
        static final int PRICE = 2;
        static final int A = 0;
        static final int B = 1;
        static final int WEAR = 2;
        static final int WET = 3;
        static final int USE = 4;
        static final int PLACE = 0;
        static final int CART = 1;
        static final int ZEAL = 2;

        private static final int WIDTH = 5;
        private static final int STRETCH_ROW = 1;
        private static final int HOUSE_ROW = 10;
        private static final int ROWS_IN_ALL = 16;
        private static final int FAR = 1000;

        private final int[] rows;
        private final int[] steps;
        private int stretches;
        private int houses;

        Parish() {
            rows = new int[ROWS_IN_ALL * WIDTH];
            steps = new int[PLACES * PLACES];
            stretches = 0;
            houses = 0;
        }

        void empty() {
            stretches = 0;
            houses = 0;
        }

        /** The row of one STRETCH more; the caller has looked that there is room. */
        int addStretch() {
            stretches++;
            return STRETCH_ROW + stretches - 1;
        }

        int addHouse() {
            houses++;
            return HOUSE_ROW + houses - 1;
        }

        void set(int row, int item, int value) {
            if (row >= 0 && row < ROWS_IN_ALL && item >= 0 && item < WIDTH) {
                rows[row * WIDTH + item] = value;
            }
        }

        void take(Parish other) {
            System.arraycopy(other.rows, 0, rows, 0, rows.length);
            stretches = other.stretches;
            houses = other.houses;
            measure();
        }

        boolean isNone() {
            return stretches == 0;
        }

        boolean hasStretch(int stretch) {
            return stretch >= 0 && stretch < stretches;
        }

        boolean hasHouse(int house) {
            return house >= 0 && house < houses;
        }

        int stretches() {
            return stretches;
        }

        int houses() {
            return houses;
        }

        int ofRules(int item) {
            return rows[item];
        }

        int ofStretch(int stretch, int item) {
            return rows[(STRETCH_ROW + stretch) * WIDTH + item];
        }

        int ofHouse(int house, int item) {
            return rows[(HOUSE_ROW + house) * WIDTH + item];
        }

        boolean touches(int stretch, int place) {
            return ofStretch(stretch, A) == place || ofStretch(stretch, B) == place;
        }

        boolean hasLoop() {
            for (int stretch = 0; stretch < stretches; stretch++) {
                if (ofStretch(stretch, A) == ofStretch(stretch, B)) {
                    return true;
                }
            }
            return false;
        }

        /** HAUL, or NONE; where a STRETCH leads never changes, so it is measured once. */
        int stepsTo(int house, int stretch) {
            int from = ofHouse(house, PLACE) * PLACES;
            int toA = steps[from + ofStretch(stretch, A)];
            int toB = steps[from + ofStretch(stretch, B)];
            int nearer = toA < toB ? toA : toB;
            return nearer >= FAR ? NONE : nearer;
        }

        private void measure() {
            Arrays.fill(steps, FAR);
            for (int place = 0; place < PLACES; place++) {
                steps[place * PLACES + place] = 0;
            }
            for (int stretch = 0; stretch < stretches; stretch++) {
                int a = ofStretch(stretch, A);
                int b = ofStretch(stretch, B);
                steps[a * PLACES + b] = 1;
                steps[b * PLACES + a] = 1;
            }
            for (int by = 0; by < PLACES; by++) {
                shortenBy(by);
            }
        }

        private void shortenBy(int by) {
            for (int from = 0; from < PLACES; from++) {
                for (int to = 0; to < PLACES; to++) {
                    int around = steps[from * PLACES + by] + steps[by * PLACES + to];
                    if (around < steps[from * PLACES + to]) {
                        steps[from * PLACES + to] = around;
                    }
                }
            }
        }
    }

    /**
     * Reads the TAPE as a PARISH into a draft. Each part answers whether it could be read; if not,
     * {@code at} stands where the FAULT is.
     */
    private static final class ParishReader {
        private static final int RULES = 0;
        private static final int STRETCH = 1;
        private static final int HOUSE = 2;

        private static final char[] LETTERS = {'d', 'f', 'p', 'a', 'b', 'w', 'e', 'u', 'c', 'q', 'z'};
        private static final int[] LOWEST = {1, 0, 0, 0, 0, 0, 0, 0, 0, 1, 0};
        private static final int[] HIGHEST = {9, 9, 9, 7, 7, 99, 9, 9, 7, 9, 9};
        private static final int[] WITHOUT = {6, 2, 3, 0, 1, 20, 2, 3, 0, 3, 5};
        private static final int[] FIRST_LETTER = {0, 3, 8, 11};

        private final Tape tape;
        private final Parish draft;
        private boolean hasRules;
        private int at;

        ParishReader(Tape tape) {
            this.tape = tape;
            draft = new Parish();
            hasRules = false;
            at = 0;
        }

        Parish draft() {
            return draft;
        }

        int firstWrong() {
            at = 0;
            hasRules = false;
            draft.empty();
            setAsWithout(RULES, 0);
            for (int clauses = 0; clauses <= MOST_BYTES; clauses++) {
                if (!readClause()) {
                    return at;
                }
                if (at >= tape.size()) {
                    break;
                }
                at++;
            }
            boolean isWhole = draft.stretches() > 0 && draft.houses() > 0 && !draft.hasLoop();
            return isWhole ? NONE : tape.size();
        }

        /** Ends at the ; behind the CLAUSE or at the end of the TAPE. */
        private boolean readClause() {
            at = tape.pastBlanks(at);
            int sort = sortOf(tape.sign(at));
            if (sort == NONE || !hasRoomFor(sort)) {
                return false;
            }
            at++;
            int row = addRow(sort);
            setAsWithout(sort, row);
            int were = 0;
            for (int items = 0; items <= MOST_BYTES; items++) {
                at = tape.pastBlanks(at);
                if (at >= tape.size() || tape.sign(at) == ';') {
                    return true;
                }
                int letter = letterOf(sort, tape.sign(at));
                if (letter == NONE || (were >> letter & 1) != 0) {
                    return false;
                }
                were |= 1 << letter;
                at = tape.pastBlanks(at + 1);
                if (!readNumber(letter, row, letter - FIRST_LETTER[sort])) {
                    return false;
                }
            }
            return false;
        }

        private boolean readNumber(int letter, int row, int item) {
            if (!tape.isDigit(at)) {
                return false;
            }
            int number = tape.sign(at) - '0';
            at++;
            if (tape.isDigit(at)) {
                number = number * 10 + tape.sign(at) - '0';
                at++;
            }
            // A third digit is wrong by itself, even behind two that are out of bounds.
            if (tape.isDigit(at)) {
                return false;
            }
            if (number < LOWEST[letter] || number > HIGHEST[letter]) {
                at--;
                return false;
            }
            draft.set(row, item, number);
            return true;
        }

        private static int sortOf(int sign) {
            if (sign == 's') {
                return RULES;
            }
            if (sign == 'r') {
                return STRETCH;
            }
            return sign == 'h' ? HOUSE : NONE;
        }

        private static int letterOf(int sort, int sign) {
            for (int letter = FIRST_LETTER[sort]; letter < FIRST_LETTER[sort + 1]; letter++) {
                if (LETTERS[letter] == sign) {
                    return letter;
                }
            }
            return NONE;
        }

        private boolean hasRoomFor(int sort) {
            if (sort == RULES) {
                return !hasRules;
            }
            return sort == STRETCH ? draft.stretches() < MOST_STRETCHES : draft.houses() < MOST_HOUSES;
        }

        private int addRow(int sort) {
            if (sort == RULES) {
                hasRules = true;
                return 0;
            }
            return sort == STRETCH ? draft.addStretch() : draft.addHouse();
        }

        private void setAsWithout(int sort, int row) {
            int first = FIRST_LETTER[sort];
            for (int letter = first; letter < FIRST_LETTER[sort + 1]; letter++) {
                draft.set(row, letter - first, WITHOUT[letter]);
            }
        }
    }

    /**
     * A LAW as a row of codes for a stack: a number is itself, a letter -1 .. -6, a sign its number
     * below 0, a leap over a CLAUSE whose CONDITION does not hold {@code LEAP} less where to.
     */
    private static final class Law {
        static final int LETTERS = 6;
        static final int ANSWER = -';';
        private static final int LEAP = -1000;
        private static final int MOST = 1000000;
        /** Six within one another leave at most two each, and five more around and within them. */
        private static final int HEIGHT = 32;

        private final int[] codes;
        private final int[] stack;
        private int length;

        Law() {
            codes = new int[MOST_BYTES];
            stack = new int[HEIGHT];
            length = 0;
        }

        void empty() {
            length = 0;
        }

        /** Each code has a byte of its own in the TEXT, so there is always room. */
        void add(int code) {
            if (length < MOST_BYTES) {
                codes[length] = code;
                length++;
            }
        }

        int size() {
            return length;
        }

        void leapFrom(int at) {
            if (at >= 0 && at < length) {
                codes[at] = LEAP - length;
            }
        }

        void take(Law other) {
            System.arraycopy(other.codes, 0, codes, 0, codes.length);
            length = other.length;
        }

        int valueFor(int[] letters) {
            int height = 0;
            // A leap only leads on, so that every turn of the loop has a later code.
            for (int at = 0; at < length; at++) {
                int code = codes[at];
                if (code >= -LETTERS) {
                    if (height < HEIGHT) {
                        stack[height] = code >= 0 ? code : letters[-1 - code];
                        height++;
                    }
                } else if (height < 1) {
                    return 0;
                } else if (code <= LEAP) {
                    height--;
                    if (stack[height] == 0 && LEAP - code > at) {
                        at = LEAP - code - 1;
                    }
                } else if (code == ANSWER) {
                    return stack[height - 1];
                } else if (code == -'!') {
                    stack[height - 1] = 1 - stack[height - 1];
                } else if (height > 1) {
                    height--;
                    stack[height - 1] = joined(-code, stack[height - 1], stack[height]);
                }
            }
            return 0;
        }

        private static int joined(int sign, int left, int right) {
            switch (sign) {
                case '=':
                    return left == right ? 1 : 0;
                case '<':
                    return left < right ? 1 : 0;
                case '>':
                    return left > right ? 1 : 0;
                case '&':
                    return left & right;
                case '|':
                    return left | right;
                case '/':
                    return right == 0 ? 0 : left / right;
                default:
                    return reckoned(sign, left, right);
            }
        }

        private static int reckoned(int sign, long left, long right) {
            long number = left * right;
            if (sign == '+') {
                number = left + right;
            } else if (sign == '-') {
                number = left - right;
            }
            if (number > MOST) {
                return MOST;
            }
            return number < -MOST ? -MOST : (int) number;
        }
    }

    /**
     * Reads the TAPE as a LAW into a draft. Each part answers whether it could be read; if not,
     * {@code at} stands where the FAULT is. {@code depth} is how many of ( [ ! stand around it.
     */
    private static final class LawReader {
        private static final int MOST_DEPTH = 6;
        private static final int MOST_DIGITS = 4;
        private static final char[] LETTERS = {'q', 'z', 'h', 'w', 'e', 's'};

        private final Tape tape;
        private final Law draft;
        private int at;

        LawReader(Tape tape) {
            this.tape = tape;
            draft = new Law();
            at = 0;
        }

        Law draft() {
            return draft;
        }

        int firstWrong() {
            at = 0;
            draft.empty();
            for (int clauses = 0; clauses <= MOST_BYTES; clauses++) {
                if (!readClause()) {
                    return at;
                }
                if (next() == 0) {
                    return NONE;
                }
                if (!skip(';')) {
                    return at;
                }
            }
            return at;
        }

        private boolean readClause() {
            if (!skip('y') || !skip(':')) {
                return false;
            }
            // Only behind the first SUM can be seen whether it began a CONDITION.
            boolean isSum = next() != '!' && next() != '(';
            if (isSum && !readSum(0)) {
                return false;
            }
            if (!isSum || isComparison(next())) {
                if (!readCondition(0, isSum) || !skip('?')) {
                    return false;
                }
                int leap = draft.size();
                draft.add(Law.LEAP);
                if (!readSum(0)) {
                    return false;
                }
                draft.add(Law.ANSWER);
                draft.leapFrom(leap);
                return true;
            }
            draft.add(Law.ANSWER);
            return true;
        }

        /** With {@code begun} the first SUM of its first UNIT has been read already. */
        private boolean readCondition(int depth, boolean begun) {
            if (!readTruth(depth, begun)) {
                return false;
            }
            for (int more = 0; more < MOST_BYTES && next() == '|'; more++) {
                at++;
                if (!readTruth(depth, false)) {
                    return false;
                }
                draft.add(-'|');
            }
            return true;
        }

        private boolean readTruth(int depth, boolean begun) {
            if (!readUnit(depth, begun)) {
                return false;
            }
            for (int more = 0; more < MOST_BYTES && next() == '&'; more++) {
                at++;
                if (!readUnit(depth, false)) {
                    return false;
                }
                draft.add(-'&');
            }
            return true;
        }

        private boolean readUnit(int depth, boolean begun) {
            int sign = next();
            if (!begun && (sign == '!' || sign == '(')) {
                if (depth >= MOST_DEPTH) {
                    return false;
                }
                at++;
                if (sign == '(') {
                    return readCondition(depth + 1, false) && skip(')');
                }
                if (!readUnit(depth + 1, false)) {
                    return false;
                }
                draft.add(-'!');
                return true;
            }
            if (!begun && !readSum(depth)) {
                return false;
            }
            int comparison = next();
            if (!isComparison(comparison)) {
                return false;
            }
            at++;
            if (!readSum(depth)) {
                return false;
            }
            draft.add(-comparison);
            return true;
        }

        private boolean readSum(int depth) {
            if (!readTerm(depth)) {
                return false;
            }
            for (int more = 0; more < MOST_BYTES && (next() == '+' || next() == '-'); more++) {
                int sign = next();
                at++;
                if (!readTerm(depth)) {
                    return false;
                }
                draft.add(-sign);
            }
            return true;
        }

        private boolean readTerm(int depth) {
            if (!readAtom(depth)) {
                return false;
            }
            for (int more = 0; more < MOST_BYTES && (next() == '*' || next() == '/'); more++) {
                int sign = next();
                at++;
                if (!readAtom(depth)) {
                    return false;
                }
                draft.add(-sign);
            }
            return true;
        }

        private boolean readAtom(int depth) {
            int sign = next();
            if (sign == '[') {
                if (depth >= MOST_DEPTH) {
                    return false;
                }
                at++;
                return readSum(depth + 1) && skip(']');
            }
            if (tape.isDigit(at)) {
                return readNumber();
            }
            for (int letter = 0; letter < Law.LETTERS; letter++) {
                if (LETTERS[letter] == sign) {
                    at++;
                    draft.add(-1 - letter);
                    return true;
                }
            }
            return false;
        }

        private boolean readNumber() {
            int number = 0;
            for (int digits = 0; digits < MOST_DIGITS && tape.isDigit(at); digits++) {
                number = number * 10 + tape.sign(at) - '0';
                at++;
            }
            draft.add(number);
            return !tape.isDigit(at);
        }

        /** The sign behind the blanks, 0 at the end; {@code at} stands at it then. */
        private int next() {
            at = tape.pastBlanks(at);
            return tape.sign(at);
        }

        private boolean skip(int sign) {
            if (next() != sign) {
                return false;
            }
            at++;
            return true;
        }

        private static boolean isComparison(int sign) {
            return sign == '=' || sign == '<' || sign == '>';
        }
    }

    /**
     * What changes, but for SEEN and the LAWS: one row of numbers, so that it is kept and brought
     * back as a whole, and the LOG.
     */
    private static final class State {
        static final int SIZE = 34;
        private static final int WEAR = 0;
        private static final int WET = 9;
        private static final int OWED = 18;
        private static final int DEBT = 24;
        private static final int BOX = 30;
        private static final int SEASON = 31;
        private static final int WORKED = 32;
        /** How many SEASONS were logged in all; to UNDO one is to count one less. */
        private static final int LOGGED = 33;

        private static final int LOG_SHOWN = 60;
        /** Forty more than are shown: as many SEASONS as can be UNDONE. */
        private static final int LOG_HELD = 100;
        private static final int LOG_WIDTH = 3;

        private final int[] row;
        private final int[] log;

        State() {
            row = new int[SIZE];
            log = new int[LOG_HELD * LOG_WIDTH];
        }

        void begin(Parish parish) {
            Arrays.fill(row, 0);
            for (int stretch = 0; stretch < parish.stretches(); stretch++) {
                row[WEAR + stretch] = parish.ofStretch(stretch, Parish.WEAR);
                row[WET + stretch] = parish.ofStretch(stretch, Parish.WET);
            }
            for (int house = 0; house < parish.houses(); house++) {
                row[OWED + house] = parish.ofRules(Parish.DAYS);
            }
        }

        void takeAll(State other) {
            System.arraycopy(other.row, 0, row, 0, SIZE);
            System.arraycopy(other.log, 0, log, 0, log.length);
        }

        void writeTo(int[] rows, int from) {
            if (from >= 0 && from + SIZE <= rows.length) {
                System.arraycopy(row, 0, rows, from, SIZE);
            }
        }

        void readFrom(int[] rows, int from) {
            if (from >= 0 && from + SIZE <= rows.length) {
                System.arraycopy(rows, from, row, 0, SIZE);
            }
        }

        int wear(int stretch) {
            return row[WEAR + stretch];
        }

        void setWear(int stretch, int wear) {
            row[WEAR + stretch] = wear;
        }

        int wet(int stretch) {
            return row[WET + stretch];
        }

        void setWet(int stretch, int wet) {
            row[WET + stretch] = wet;
        }

        int owed(int house) {
            return row[OWED + house];
        }

        void setOwed(int house, int owed) {
            row[OWED + house] = owed;
        }

        int debt(int house) {
            return row[DEBT + house];
        }

        void setDebt(int house, int debt) {
            row[DEBT + house] = debt;
        }

        int box() {
            return row[BOX];
        }

        void addToBox(int more) {
            row[BOX] += more;
        }

        int season() {
            return row[SEASON];
        }

        boolean isWinter() {
            return row[SEASON] % IN_A_YEAR == WINTER;
        }

        int worked() {
            return row[WORKED];
        }

        void countWork() {
            row[WORKED]++;
        }

        int allWear() {
            return sum(WEAR, MOST_STRETCHES);
        }

        int allOwed() {
            return sum(OWED, MOST_HOUSES);
        }

        int allDebt() {
            return sum(DEBT, MOST_HOUSES);
        }

        void nextSeason() {
            row[SEASON]++;
        }

        void writeLog() {
            int at = row[LOGGED] % LOG_HELD * LOG_WIDTH;
            log[at] = allWear();
            log[at + 1] = bad();
            log[at + 2] = row[WORKED];
            row[LOGGED]++;
            row[WORKED] = 0;
        }

        int logLength() {
            return row[LOGGED] < LOG_SHOWN ? row[LOGGED] : LOG_SHOWN;
        }

        int logged(int i, int what) {
            if (i < 0 || i >= logLength() || what < 0 || what >= LOG_WIDTH) {
                return NONE;
            }
            return log[(row[LOGGED] - 1 - i) % LOG_HELD * LOG_WIDTH + what];
        }

        private int bad() {
            int bad = 0;
            for (int stretch = 0; stretch < MOST_STRETCHES; stretch++) {
                if (wear(stretch) >= BAD_WEAR) {
                    bad++;
                }
            }
            return bad;
        }

        /** Rows of STRETCHES and HOUSES that are not there hold 0. */
        private int sum(int from, int numbers) {
            int sum = 0;
            for (int i = 0; i < numbers; i++) {
                sum += row[from + i];
            }
            return sum;
        }
    }

    /** How it was ahead of each of the latest ACTS, as a ring. */
    private static final class Past {
        private static final int MOST = 40;

        private final int[] rows;
        private int size;
        private int next;

        Past() {
            rows = new int[MOST * State.SIZE];
            size = 0;
            next = 0;
        }

        void keep(State state) {
            state.writeTo(rows, next * State.SIZE);
            next = (next + 1) % MOST;
            if (size < MOST) {
                size++;
            }
        }

        boolean bringBack(State state) {
            if (size == 0) {
                return false;
            }
            size--;
            next = (next + MOST - 1) % MOST;
            state.readFrom(rows, next * State.SIZE);
            return true;
        }

        void forget() {
            size = 0;
        }

        int size() {
            return size;
        }
    }

    /** The LAWS, what a day DOES by them, and what days and SEASONS change. */
    private static final class Labour {
        private static final int BOUGHT_DOES = 8;
        private static final long DRAW_TIMES = 6364136223846793005L;
        private static final long DRAW_MORE = 1442695040888963407L;

        private final Parish parish;
        private final State state;
        private final Law[] laws;
        private final int[] letters;
        private int lawCount;
        private int holding;
        private long drawn;

        Labour(Parish parish, State state) {
            this.parish = parish;
            this.state = state;
            laws = new Law[MOST_LAWS];
            for (int law = 0; law < MOST_LAWS; law++) {
                laws[law] = new Law();
            }
            letters = new int[Law.LETTERS];
            lawCount = 0;
            holding = NONE;
            drawn = 0;
        }

        int laws() {
            return lawCount;
        }

        int holding() {
            return holding;
        }

        int addLaw(Law draft) {
            if (lawCount >= MOST_LAWS) {
                return NONE;
            }
            laws[lawCount].take(draft);
            lawCount++;
            return lawCount - 1;
        }

        boolean holdTo(int law) {
            if (law < NONE || law >= lawCount) {
                return false;
            }
            holding = law;
            return true;
        }

        boolean canCome(int house, int stretch) {
            return parish.stepsTo(house, stretch) != NONE;
        }

        boolean canWork(int house, int stretch, int kind) {
            return kind == BOUGHT || canCome(house, stretch);
        }

        boolean canMeet(int one, int other, int stretch) {
            if (!parish.hasHouse(one) || !parish.hasHouse(other) || one == other || !parish.hasStretch(stretch)) {
                return false;
            }
            return canCome(one, stretch) && canCome(other, stretch);
        }

        /** What it DOES at a WEAR, which need not be that of now. */
        int effect(int house, int stretch, int kind, int wear) {
            int full = 0;
            if (kind == BOUGHT) {
                full = BOUGHT_DOES;
            } else if (kind != FEIGNED) {
                full = ownDay(house, stretch, wear);
            }
            if (kind == BOYS) {
                full /= 2;
            }
            return state.isWinter() ? full / 2 : full;
        }

        int effectNow(int house, int stretch, int kind) {
            return effect(house, stretch, kind, state.wear(stretch));
        }

        private int ownDay(int house, int stretch, int wear) {
            int cart = parish.ofHouse(house, Parish.CART);
            int steps = parish.stepsTo(house, stretch);
            int worth = 2 * cart - steps;
            if (holding >= 0 && holding < MOST_LAWS) {
                letters[0] = cart;
                letters[1] = parish.ofHouse(house, Parish.ZEAL);
                letters[2] = steps;
                letters[3] = wear;
                letters[4] = state.wet(stretch);
                letters[5] = state.season() % IN_A_YEAR;
                worth = laws[holding].valueFor(letters);
            }
            if (worth < 0) {
                return 0;
            }
            return worth > MOST_WEAR ? MOST_WEAR : worth;
        }

        /** The caller has looked that it owes a day and that it can work there. */
        void workDay(int house, int stretch, int kind) {
            int left = state.wear(stretch) - effect(house, stretch, kind, state.wear(stretch));
            state.setWear(stretch, left < 0 ? 0 : left);
            state.setOwed(house, state.owed(house) - 1);
            state.countWork();
            if (kind == BOUGHT) {
                state.addToBox(parish.ofRules(Parish.PRICE));
            }
        }

        void drain(int stretch) {
            int place = parish.ofStretch(stretch, Parish.B);
            state.addToBox(-DITCH_COST);
            state.setWet(stretch, state.wet(stretch) - 1);
            for (int other = 0; other < parish.stretches(); other++) {
                if (other != stretch && parish.touches(other, place) && state.wet(other) < MOST_WET) {
                    state.setWet(other, state.wet(other) + 1);
                }
            }
        }

        void passSeason() {
            boolean isWinter = state.isWinter();
            for (int stretch = 0; stretch < parish.stretches(); stretch++) {
                state.setWear(stretch, wornOn(stretch, state.wear(stretch), isWinter));
            }
            state.nextSeason();
            if (state.season() % IN_A_YEAR == 0) {
                beginYear();
            }
            state.writeLog();
        }

        /** A WEAR one SEASON of USE later, with frost or without. */
        int wornOn(int stretch, int wear, boolean isFrosty) {
            int worn = wear + parish.ofStretch(stretch, Parish.USE);
            if (isFrosty) {
                worn += parish.ofRules(Parish.FROST) + state.wet(stretch);
            }
            return worn > MOST_WEAR ? MOST_WEAR : worn;
        }

        private void beginYear() {
            for (int house = 0; house < parish.houses(); house++) {
                int debt = state.debt(house) + state.owed(house);
                state.setDebt(house, debt > MOST_DEBT ? MOST_DEBT : debt);
                state.setOwed(house, parish.ofRules(Parish.DAYS));
            }
        }

        void sow(long seed) {
            drawn = seed;
        }

        void workDrawnDays() {
            for (int house = 0; house < parish.houses(); house++) {
                if (state.owed(house) > 0) {
                    int stretch = draw(parish.stretches());
                    int kind = OWN;
                    if (draw(10) >= parish.ofHouse(house, Parish.ZEAL)) {
                        kind = draw(2) == 0 ? BOYS : FEIGNED;
                    }
                    if (canCome(house, stretch)) {
                        workDay(house, stretch, kind);
                    }
                }
            }
        }

        private int draw(int below) {
            drawn = drawn * DRAW_TIMES + DRAW_MORE;
            return below < 1 ? 0 : (int) ((drawn >>> 33) % below);
        }

        int mostWorth(int house) {
            int most = NONE;
            int best = NONE;
            for (int stretch = 0; stretch < parish.stretches(); stretch++) {
                if (canCome(house, stretch) && effectNow(house, stretch, OWN) > most) {
                    most = effectNow(house, stretch, OWN);
                    best = stretch;
                }
            }
            return best;
        }

        int buyers() {
            int buyers = 0;
            for (int house = 0; house < parish.houses(); house++) {
                if (shouldBuy(house)) {
                    buyers |= 1 << house;
                }
            }
            return buyers;
        }

        private boolean shouldBuy(int house) {
            for (int stretch = 0; stretch < parish.stretches(); stretch++) {
                int wear = state.wear(stretch);
                int bought = effect(house, stretch, BOUGHT, wear);
                if (canCome(house, stretch) && effect(house, stretch, OWN, wear) >= bought) {
                    return false;
                }
            }
            return true;
        }

        int doersOf(int stretch, int e) {
            int doers = 0;
            for (int house = 0; house < parish.houses(); house++) {
                if (canCome(house, stretch)
                        && (effectNow(house, stretch, OWN) == e || effectNow(house, stretch, BOYS) == e)) {
                    doers |= 1 << house;
                }
            }
            return doers;
        }
    }

    /** WAYS, and what follows from which STRETCHES meet where. */
    private static final class Roads {
        /**
         * A WAY is one number, WEAR times this and its STRETCHES as bits: the least such number is
         * the least WEAR and of several the least bits, as no least WAY has a STRETCH twice.
         */
        private static final int BITS = 1 << MOST_STRETCHES;
        private static final int NO_WAY = 1000000000;

        private final Parish parish;
        private final State state;
        private final int[] ways;

        Roads(Parish parish, State state) {
            this.parish = parish;
            this.state = state;
            ways = new int[PLACES];
        }

        /** What is asked of a PLACE or a HOUSE behind this is of the WAY from here. */
        void spreadFrom(int place) {
            Arrays.fill(ways, NO_WAY);
            if (place >= 0 && place < PLACES) {
                ways[place] = 0;
            }
            for (int round = 1; round < PLACES; round++) {
                for (int stretch = 0; stretch < parish.stretches(); stretch++) {
                    int length = state.wear(stretch) * BITS + (1 << stretch);
                    int a = parish.ofStretch(stretch, Parish.A);
                    int b = parish.ofStretch(stretch, Parish.B);
                    ways[a] = Math.min(ways[a], ways[b] + length);
                    ways[b] = Math.min(ways[b], ways[a] + length);
                }
            }
        }

        boolean reaches(int place) {
            return ways[place] < NO_WAY;
        }

        int wearTo(int place) {
            return ways[place] / BITS;
        }

        int stretchesTo(int place) {
            return ways[place] % BITS;
        }

        int roadOf(int house) {
            int place = parish.ofHouse(house, Parish.PLACE);
            return reaches(place) ? stretchesTo(place) : 0;
        }

        int useOf(int house) {
            int road = roadOf(house);
            int use = 0;
            for (int stretch = 0; stretch < parish.stretches(); stretch++) {
                if ((road >> stretch & 1) != 0) {
                    use += parish.ofStretch(stretch, Parish.USE);
                }
            }
            return use;
        }

        int useOfAll() {
            int use = 0;
            for (int house = 0; house < parish.houses(); house++) {
                use += useOf(house);
            }
            return use;
        }

        int mostUsing() {
            int most = 0;
            for (int house = 1; house < parish.houses(); house++) {
                if (useOf(house) > useOf(most)) {
                    most = house;
                }
            }
            return most;
        }

        int mostWorn() {
            int most = 0;
            for (int stretch = 1; stretch < parish.stretches(); stretch++) {
                if (state.wear(stretch) > state.wear(most)) {
                    most = stretch;
                }
            }
            return most;
        }

        int deadEnds() {
            int places = 0;
            for (int place = 0; place < PLACES; place++) {
                int meeting = 0;
                for (int stretch = 0; stretch < parish.stretches(); stretch++) {
                    if (parish.touches(stretch, place)) {
                        meeting++;
                    }
                }
                if (meeting == 1) {
                    places |= 1 << place;
                }
            }
            return places;
        }

        int bridges() {
            int all = reachedWithout(NONE);
            int bridges = 0;
            for (int stretch = 0; stretch < parish.stretches(); stretch++) {
                if (reachedWithout(stretch) != all) {
                    bridges |= 1 << stretch;
                }
            }
            return bridges;
        }

        private int reachedWithout(int missing) {
            int reached = 1;
            for (int round = 1; round < PLACES; round++) {
                for (int stretch = 0; stretch < parish.stretches(); stretch++) {
                    int both = 1 << parish.ofStretch(stretch, Parish.A) | 1 << parish.ofStretch(stretch, Parish.B);
                    if (stretch != missing && (reached & both) != 0) {
                        reached |= both;
                    }
                }
            }
            return reached;
        }

        int touching(int stretch) {
            int a = parish.ofStretch(stretch, Parish.A);
            int b = parish.ofStretch(stretch, Parish.B);
            int touching = 0;
            for (int other = 0; other < parish.stretches(); other++) {
                if (other != stretch && (parish.touches(other, a) || parish.touches(other, b))) {
                    touching |= 1 << other;
                }
            }
            return touching;
        }
    }

    /** SEEN, and the sets of HOUSES that may have feigned by it. */
    private static final class Sightings {
        private static final int MOST = 10;
        private static final int MOST_FEIGNED = 3;

        private final Parish parish;
        private final int[] sets;
        private final boolean[] better;
        private int size;

        Sightings(Parish parish) {
            this.parish = parish;
            sets = new int[MOST];
            better = new boolean[MOST];
            size = 0;
        }

        int add(int houses, boolean gotBetter) {
            if (houses < 1 || houses >= allSets() || size >= MOST) {
                return NONE;
            }
            sets[size] = houses;
            better[size] = gotBetter;
            size++;
            return size;
        }

        void forget() {
            size = 0;
        }

        int size() {
            return size;
        }

        boolean canAsk(int k) {
            return !parish.isNone() && k >= 0 && k <= MOST_FEIGNED;
        }

        int fitting(int k) {
            int fitting = 0;
            for (int set = 0; set < allSets(); set++) {
                if (fits(set, k)) {
                    fitting++;
                }
            }
            return fitting;
        }

        int fittingAt(int k, int i) {
            int left = i;
            for (int set = 0; set < allSets(); set++) {
                if (fits(set, k)) {
                    if (left == 0) {
                        return set;
                    }
                    left--;
                }
            }
            return NONE;
        }

        int inNone(int k) {
            int inSome = 0;
            for (int set = 0; set < allSets(); set++) {
                if (fits(set, k)) {
                    inSome |= set;
                }
            }
            return allSets() - 1 & ~inSome;
        }

        int toWatch(int k) {
            int all = fitting(k);
            int best = 0;
            for (int house = 1; house < parish.houses(); house++) {
                if (apart(house, k, all) < apart(best, k, all)) {
                    best = house;
                }
            }
            return best;
        }

        private int apart(int house, int k, int all) {
            int yes = 0;
            for (int set = 0; set < allSets(); set++) {
                if ((set >> house & 1) != 0 && fits(set, k)) {
                    yes++;
                }
            }
            return Math.abs(all - 2 * yes);
        }

        private boolean fits(int set, int k) {
            if (Integer.bitCount(set) != k) {
                return false;
            }
            for (int i = 0; i < size; i++) {
                boolean someWorked = (sets[i] & ~set) != 0;
                if (someWorked != better[i]) {
                    return false;
                }
            }
            return true;
        }

        private int allSets() {
            return 1 << parish.houses();
        }
    }

    /** What would be: LEAST, GAMES, FAILS, ODDS. */
    private static final class Outlook {
        private static final int MOST_DAYS = 6;
        private static final int MOST_AHEAD = 200;
        private static final int ALL_PARTS = 1000000000;
        private static final int NEVER = 1000;
        private static final int[] PLAYED = {OWN, BOYS, FEIGNED};
        private static final int[] COSTS = {4, 2, 0, 0};

        private final Parish parish;
        private final State state;
        private final Labour labour;
        private final int[] daysLeft;
        private final int[] behind;
        private final int[] reachedIn;
        private final int[] lowest;
        private final int[] parts;
        private final int[] oneDoes;
        private final int[] otherDoes;

        Outlook(Parish parish, State state, Labour labour) {
            this.parish = parish;
            this.state = state;
            this.labour = labour;
            daysLeft = new int[MOST_HOUSES];
            behind = new int[MOST_HOUSES * WEARS];
            reachedIn = new int[WEARS];
            lowest = new int[(MOST_DAYS + 1) * WEARS];
            parts = new int[WEARS];
            oneDoes = new int[KINDS];
            otherDoes = new int[KINDS];
        }

        /** LEAST: days times ROWS and the row, or NONE. */
        int fewestDays(int stretch, int goal) {
            int wear = state.wear(stretch);
            for (int house = 0; house < parish.houses(); house++) {
                daysLeft[house] = labour.canCome(house, stretch) ? state.owed(house) : 0;
            }
            foreseeDays(stretch, wear);
            foreseeLowest(wear);
            for (int days = 0; days <= MOST_DAYS; days++) {
                int row = leastRow(days, wear, goal, 0);
                if (row != NONE) {
                    return days * ROWS + row;
                }
            }
            return NONE;
        }

        /** The WEAR behind a day of each HOUSE, for each WEAR that six days could come to. */
        private void foreseeDays(int stretch, int wear) {
            Arrays.fill(reachedIn, NEVER);
            reachedIn[wear] = 0;
            for (int from = wear; from >= 0; from--) {
                for (int house = 0; house < parish.houses() && reachedIn[from] < MOST_DAYS; house++) {
                    if (daysLeft[house] > 0) {
                        int to = Math.max(0, from - labour.effect(house, stretch, OWN, from));
                        behind[house * WEARS + from] = to;
                        reachedIn[to] = Math.min(reachedIn[to], reachedIn[from] + 1);
                    }
                }
            }
        }

        /** How low so many days could bring a WEAR if all owed enough: what is not low enough so is not tried. */
        private void foreseeLowest(int wear) {
            for (int from = 0; from <= wear; from++) {
                lowest[from] = from;
            }
            for (int days = 1; days <= MOST_DAYS; days++) {
                for (int from = 0; from <= wear; from++) {
                    int low = from;
                    for (int house = 0; house < parish.houses() && reachedIn[from] + days <= MOST_DAYS; house++) {
                        if (daysLeft[house] > 0) {
                            low = Math.min(low, lowest[(days - 1) * WEARS + behind[house * WEARS + from]]);
                        }
                    }
                    lowest[days * WEARS + from] = low;
                }
            }
        }

        /** Rows of one length are tried in their order, so the first that fits is the least. */
        private int leastRow(int days, int wear, int goal, int row) {
            if (lowest[days * WEARS + wear] > goal) {
                return NONE;
            }
            if (days == 0) {
                return row;
            }
            for (int house = 0; house < parish.houses(); house++) {
                if (daysLeft[house] > 0) {
                    daysLeft[house]--;
                    int found = leastRow(days - 1, behind[house * WEARS + wear], goal, row * 10 + house);
                    daysLeft[house]++;
                    if (found != NONE) {
                        return found;
                    }
                }
            }
            return NONE;
        }

        void setUpGame(int one, int other, int stretch) {
            for (int kind = 0; kind < KINDS; kind++) {
                oneDoes[kind] = labour.effectNow(one, stretch, kind);
                otherDoes[kind] = labour.effectNow(other, stretch, kind);
            }
        }

        int ones(int x, int y) {
            return (oneDoes[x] + otherDoes[y]) / 2 - COSTS[x];
        }

        int others(int x, int y) {
            return (oneDoes[x] + otherDoes[y]) / 2 - COSTS[y];
        }

        /** RESTS: how many (i NONE), the i-th or NONE. */
        int restAt(int i) {
            int found = 0;
            for (int x : PLAYED) {
                for (int y : PLAYED) {
                    if (isRest(x, y)) {
                        if (found == i) {
                            return 10 * x + y;
                        }
                        found++;
                    }
                }
            }
            return i == NONE ? found : NONE;
        }

        private boolean isRest(int x, int y) {
            for (int another : PLAYED) {
                if (ones(another, y) > ones(x, y) || others(x, another) > others(x, y)) {
                    return false;
                }
            }
            return true;
        }

        int firstToFail() {
            int first = NONE;
            int soonest = MOST_AHEAD + 1;
            for (int stretch = 0; stretch < parish.stretches(); stretch++) {
                int seasons = seasonsTillFull(stretch);
                if (seasons != NONE && seasons < soonest) {
                    soonest = seasons;
                    first = stretch;
                }
            }
            return first;
        }

        int seasonsTillFull(int stretch) {
            int wear = state.wear(stretch);
            for (int seasons = 0; seasons <= MOST_AHEAD; seasons++) {
                if (wear >= MOST_WEAR) {
                    return seasons;
                }
                boolean isWinter = (state.season() + seasons) % IN_A_YEAR == WINTER;
                wear = labour.wornOn(stretch, wear, isWinter);
            }
            return NONE;
        }

        int badParts(int stretch, int seasons, int chance) {
            Arrays.fill(parts, 0);
            parts[state.wear(stretch)] = ALL_PARTS;
            for (int season = 0; season < seasons; season++) {
                spreadParts(stretch, chance);
            }
            int bad = 0;
            for (int wear = BAD_WEAR; wear < WEARS; wear++) {
                bad += parts[wear];
            }
            return bad;
        }

        /** From the highest WEAR down: what moves only moves up, so no part moves twice. */
        private void spreadParts(int stretch, int chance) {
            for (int wear = MOST_WEAR; wear >= 0; wear--) {
                int all = parts[wear];
                int frosty = (int) ((long) all * chance / 100);
                parts[wear] = 0;
                parts[labour.wornOn(stretch, wear, true)] += frosty;
                parts[labour.wornOn(stretch, wear, false)] += all - frosty;
            }
        }
    }
}
