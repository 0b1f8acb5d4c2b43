import java.util.ArrayList;
import java.util.List;
import java.util.Random;

/** Texts of parishes and laws by a Random, and texts as the numbers that feed takes. */
public final class Texts {
    private Texts() {
    }

    /** Rows of five numbers, four bytes each, the last filled up with bytes of 0. */
    public static List<int[]> fives(String text) {
        List<int[]> fives = new ArrayList<>();
        for (int from = 0; from < text.length(); from += 20) {
            int[] five = new int[5];
            for (int i = 0; i < 20; i++) {
                int sign = from + i < text.length() ? text.charAt(from + i) & 255 : 0;
                five[i / 4] |= sign << 24 - i % 4 * 8;
            }
            fives.add(five);
        }
        return fives;
    }

    public static String parish(Random random) {
        List<String> clauses = new ArrayList<>();
        int stretches = 1 + random.nextInt(9);
        int houses = 1 + random.nextInt(6);
        int places = 2 + random.nextInt(7);
        for (int i = 0; i < stretches; i++) {
            int a = random.nextInt(places);
            int b = (a + 1 + random.nextInt(places - 1)) % places;
            boolean all = a == b || a > 0 || b != 1 || random.nextBoolean();
            String ends = all ? item('a', a, 0, random) + item('b', b, 1, random) : "";
            clauses.add("r" + ends + some("w", random.nextBoolean() ? 100 : 3, random) + some("e", 10, random) + some("u", 10, random));
        }
        for (int i = 0; i < houses; i++) {
            clauses.add("h" + item('c', random.nextInt(places), 0, random) + (random.nextBoolean() ? "q" + (1 + random.nextInt(9)) : "") + some("z", 10, random));
        }
        if (random.nextBoolean()) {
            clauses.add("s" + (random.nextBoolean() ? "d" + (1 + random.nextInt(9)) : "") + some("f", 10, random) + some("p", 10, random));
        }
        java.util.Collections.shuffle(clauses, random);
        String text = String.join(";", clauses);
        return random.nextInt(5) == 0 ? blanks(text, random) : text;
    }

    private static String item(char letter, int number, int without, Random random) {
        return number == without && random.nextBoolean() ? "" : "" + letter + (random.nextInt(9) == 0 ? "0" : "") + number;
    }

    private static String some(String letter, int below, Random random) {
        return random.nextBoolean() ? letter + random.nextInt(below) : "";
    }

    public static String law(Random random) {
        StringBuilder text = new StringBuilder();
        int clauses = 1 + random.nextInt(3);
        for (int i = 0; i < clauses; i++) {
            text.append(i > 0 ? ";" : "").append("y:");
            if (random.nextInt(3) > 0) {
                text.append(condition(random, random.nextInt(4))).append('?');
            }
            text.append(sum(random, random.nextInt(4)));
        }
        return random.nextInt(5) == 0 ? blanks(text.toString(), random) : text.toString();
    }

    private static String condition(Random random, int depth) {
        int luck = random.nextInt(10);
        if (depth > 0 && luck < 2) {
            return condition(random, depth - 1) + (random.nextBoolean() ? "|" : "&") + condition(random, depth - 1);
        }
        if (depth > 0 && luck < 4) {
            return "(" + condition(random, depth - 1) + ")";
        }
        if (depth > 0 && luck < 6) {
            return "!" + (random.nextBoolean() ? "(" + condition(random, depth - 1) + ")" : comparison(random, 0));
        }
        return comparison(random, depth > 1 ? 1 : 0);
    }

    private static String comparison(Random random, int depth) {
        return sum(random, depth) + "=<>".charAt(random.nextInt(3)) + sum(random, depth);
    }

    private static String sum(Random random, int depth) {
        if (depth > 0) {
            String left = sum(random, depth - 1);
            String right = sum(random, depth - 1);
            int luck = random.nextInt(8);
            if (luck == 7) {
                return "[" + left + "]";
            }
            return luck < 6 ? left + "+-*/+-".charAt(luck) + right : "[" + left + "]*" + right;
        }
        if (random.nextInt(3) == 0) {
            return "" + random.nextInt(random.nextInt(4) == 0 ? 10000 : 12);
        }
        return "" + "qzhwesw".charAt(random.nextInt(7));
    }

    /** A text with signs put in, left out or changed, or deeply nested. */
    public static String spoilt(String text, Random random) {
        StringBuilder spoilt = new StringBuilder(text);
        if (random.nextInt(6) == 0) {
            spoilt = new StringBuilder(nested(random));
        }
        int changes = random.nextInt(4);
        String signs = "srhdfpabweucqzyqzhwes:;?|&!()=<>+-*/[]0123456789 01289" + (char) 200;
        for (int i = 0; i < changes && spoilt.length() > 0; i++) {
            int at = random.nextInt(spoilt.length());
            char sign = signs.charAt(random.nextInt(signs.length()));
            switch (random.nextInt(4)) {
                case 0 -> spoilt.deleteCharAt(at);
                case 1 -> spoilt.setCharAt(at, sign);
                case 2 -> spoilt.setLength(at);
                default -> spoilt.insert(at, sign);
            }
        }
        if (spoilt.length() > 240) {
            spoilt.setLength(240);
        }
        return spoilt.toString();
    }

    private static String nested(Random random) {
        StringBuilder open = new StringBuilder("y:");
        StringBuilder close = new StringBuilder();
        int depth = 4 + random.nextInt(5);
        boolean inSum = false;
        for (int i = 0; i < depth; i++) {
            int luck = random.nextInt(inSum ? 1 : 4);
            if (luck == 0) {
                close.insert(0, inSum || random.nextBoolean() ? "]" : "]+1");
                if (!inSum) {
                    close.insert(close.indexOf("]") + (close.indexOf("+1") == 1 ? 3 : 1), "=1");
                }
                open.append('[');
                inSum = true;
            } else if (luck < 3) {
                open.append('(');
                close.insert(0, ')');
            } else {
                open.append('!');
            }
        }
        return open.append('q').append(inSum ? "" : "=2").append(close).append("?1").toString();
    }

    private static String blanks(String text, Random random) {
        StringBuilder with = new StringBuilder();
        for (int i = 0; i < text.length(); i++) {
            boolean within = i > 0 && Character.isDigit(text.charAt(i)) && Character.isDigit(text.charAt(i - 1));
            if (!within && random.nextInt(3) == 0) {
                with.append(random.nextBoolean() ? " " : "  ");
            }
            with.append(text.charAt(i));
        }
        return with.toString();
    }
}
