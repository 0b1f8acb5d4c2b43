import java.util.NoSuchElementException;

/** What the tests by hand share: parishes told as texts, and answers compared with those that are due. */
public class Checks {
    static final int NONE = -1;
    static final int HIDDEN = -1000000;

    private static String sentence = "";
    private static int checks = 0;
    private static int wrong = 0;

    /** The promise, or the document's words, that the checks behind this are about. */
    static void about(String words) {
        sentence = words;
    }

    static void is(String what, long got, long due) {
        checks++;
        if (got != due) {
            wrong++;
            System.out.println(sentence + ": " + what + " answered " + got + ", due is " + due);
        }
    }

    static void is(String what, boolean got, boolean due) {
        is(what, got ? 1 : 0, due ? 1 : 0);
    }

    static void is(String what, String got, String due) {
        checks++;
        if (!got.equals(due)) {
            wrong++;
            System.out.println(sentence + ": " + what + " is\n  " + got + ", due is\n  " + due);
        }
    }

    /** Every main ends with this: exit code 1 if an answer was not as due. */
    static void tellAndExit() {
        System.out.println(checks + " checks, " + wrong + " wrong");
        if (wrong != 0) {
            System.exit(1);
        }
    }

    static void tell(OwedDays x, String text) {
        for (int[] five : Texts.fives(text)) {
            if (x.feed(five[0], five[1], five[2], five[3], five[4]) == NONE) {
                throw new IllegalStateException("no room for " + text);
            }
        }
    }

    static OwedDays parish(String text) {
        OwedDays x = new OwedDays();
        tell(x, text);
        if (x.text(0) == NONE) {
            throw new IllegalStateException(text);
        }
        return x;
    }

    /** A parish under a law that holds. */
    static OwedDays parish(String text, String law) {
        OwedDays x = parish(text);
        hold(x, law);
        return x;
    }

    static void hold(OwedDays x, String law) {
        tell(x, law);
        if (!x.law(x.text(1)) || x.count(4) == NONE) {
            throw new IllegalStateException(law);
        }
    }

    /** The fault of a text told to a new object. */
    static int faultOf(int sort, String text) {
        OwedDays x = new OwedDays();
        tell(x, text);
        return x.fault(sort);
    }

    static int thrown(OwedDays x, int house, int what) {
        try {
            x.house(house, what);
            return 0;
        } catch (NoSuchElementException e) {
            return 1;
        }
    }
}
