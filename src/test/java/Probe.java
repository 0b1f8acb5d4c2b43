/** What an object answers, as one line: two that differ in no answer are alike. */
public final class Probe {
    private static final int NONE = -1;

    private Probe() {
    }

    /** What an IMAGE keeps. */
    public static String now(OwedDays x) {
        StringBuilder line = new StringBuilder();
        for (int what = 5; what <= 10; what++) {
            line.append(x.count(what)).append(' ');
        }
        int stretches = x.count(0);
        int houses = x.count(1);
        for (int s = 0; s < stretches; s++) {
            line.append("r ").append(x.stretch(s, 2)).append(' ').append(x.stretch(s, 3)).append(' ');
        }
        for (int h = 0; h < houses; h++) {
            line.append("h ").append(x.house(h, 3)).append(' ').append(x.house(h, 4)).append(' ');
        }
        int length = x.count(12);
        line.append("log ").append(length).append(' ');
        for (int i = 0; i < length; i++) {
            line.append(x.log(i, 0)).append('/').append(x.log(i, 1)).append('/').append(x.log(i, 2)).append(' ');
        }
        return line.toString();
    }

    /** All that can be asked without a change, but for STATUS. */
    public static String all(OwedDays x) {
        StringBuilder line = new StringBuilder(now(x)).append("tape ").append(x.fault(0)).append(' ').append(x.fault(1)).append(" count ");
        for (int what = 0; what <= 13; what++) {
            line.append(x.count(what)).append(' ');
        }
        for (int what = 0; what < 3; what++) {
            line.append("s ").append(x.rule(what)).append(' ');
        }
        for (int s = 0; s < x.count(0); s++) {
            line.append("r ").append(x.stretch(s, 0)).append(' ').append(x.stretch(s, 1)).append(' ').append(x.stretch(s, 4)).append(' ');
        }
        for (int h = 0; h < x.count(1); h++) {
            line.append("h ").append(x.house(h, 0)).append(' ').append(x.house(h, 1)).append(' ').append(x.house(h, 2)).append(' ');
        }
        for (int k = 0; k < 4; k++) {
            line.append("k ").append(x.feigned(k, NONE)).append(' ').append(x.honest(k)).append(' ');
        }
        return line.append(laws(x)).toString();
    }

    /** What a house does by each law; the one that holds holds again then. */
    private static String laws(OwedDays x) {
        StringBuilder line = new StringBuilder("laws ");
        int holds = x.count(4);
        for (int law = 0; law < x.count(2); law++) {
            x.law(law);
            line.append(x.does(0, 0, 0)).append(' ');
        }
        x.law(holds);
        return line.toString();
    }

    /** What would be: of a parish with few stretches and houses, so that it takes few calls. */
    public static String asks(OwedDays x) {
        StringBuilder line = new StringBuilder();
        int[] whole = {x.buys(), x.fails(0), x.fails(1), x.toll(9, 0), x.toll(9, 1), x.worst(), x.ends(), x.cut()};
        line.append(java.util.Arrays.toString(whole));
        for (int from = 0; from < 8; from++) {
            for (int to = from; to < 8; to++) {
                line.append(' ').append(x.way(from, to, 0)).append('/').append(x.way(from, to, 1));
            }
        }
        int stretches = x.count(0);
        int houses = x.count(1);
        for (int s = 0; s < stretches; s++) {
            int[] of = {x.least(s, 0, 0), x.least(s, 0, 1), x.least(s, 9, 1), x.whose(s, 6), x.odds(s, 20, 50), x.neighbours(s)};
            line.append(" r ").append(java.util.Arrays.toString(of));
        }
        for (int h = 0; h < houses; h++) {
            line.append(" h ").append(x.worth(h)).append(' ').append(x.road(h)).append(' ').append(x.shares(h, 999));
            for (int s = 0; s < stretches; s++) {
                line.append(' ').append(x.haul(h, s)).append('/').append(x.does(h, s, 0)).append('/').append(x.rests(0, h, s, NONE));
            }
        }
        return line.toString();
    }

    public static String status(OwedDays x) {
        StringBuilder line = new StringBuilder();
        for (int what = 0; what < 5; what++) {
            line.append(x.status(what)).append(' ');
        }
        return line.toString();
    }

    /** How it was ahead of each act: the object is changed by it. */
    public static String acts(OwedDays x) {
        StringBuilder line = new StringBuilder();
        int left = x.undo();
        while (left != NONE) {
            line.append("undo ").append(left).append(": ").append(now(x)).append("\n  ");
            left = x.undo();
        }
        return line.toString();
    }

    /** What its image has: the object is changed by it. */
    public static String image(OwedDays x) {
        return "back " + x.back() + ": " + now(x);
    }
}
