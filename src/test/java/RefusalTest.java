import java.lang.reflect.InvocationTargetException;
import java.lang.reflect.Method;
import java.util.NoSuchElementException;
import java.util.function.Supplier;

/**
 * "What is refused answers as told and changes nothing but STATUS": every ground that a promise names,
 * one by one, and that behind it all stands as in an object alike to which the call was not made.
 */
public final class RefusalTest extends Checks {
    private static final long THROWN = Long.MIN_VALUE;
    private static final int NO_STATUS = -1;
    private static final String MIN = "" + Integer.MIN_VALUE;
    private static final String MAX = "" + Integer.MAX_VALUE;

    public static void main(String[] args) {
        withoutAParish();
        textsAndLaws();
        whatIsFull();
        whatIsTold();
        refusedActs();
        refusedAsks();
        refusedSightings();
        inTheLastSeason();
        beforeAnyAct();
        asksChangeNothing();
        tellAndExit();
    }

    /** Two LAWS, of which one holds, and a TAPE that is neither a PARISH nor a LAW. */
    private static OwedDays none() {
        OwedDays x = new OwedDays();
        tell(x, "y:q+h");
        x.text(1);
        hold(x, "y:12");
        tell(x, "rw5;");
        return x;
    }

    /** STRETCH 2 is far from all HOUSES, HOUSE 2 lives where none leads and owes no day; HOUSE 0, 1 owe one. */
    private static OwedDays rich() {
        OwedDays x = none();
        x.end(0);
        tell(x, "sd2f1p5;rw30u4;ra1b2w50e3;ra5b6w10e0;hq5;hc2q2z9;hc7");
        x.text(0);
        tell(x, "rw5;");
        x.work(0, 0, 2);
        x.pay(1, 1);
        x.ditch(1);
        x.seasons(5);
        x.work(1, 1, 0);
        x.seen(3, true);
        x.seen(4, false);
        x.image();
        x.work(2, 0, 2);
        x.pay(2, 1);
        x.years(1, 99);
        return x;
    }

    /** A TAPE of 240 bytes that is a LAW, four LAWS, ten SEEN. */
    private static OwedDays full() {
        OwedDays x = rich();
        x.end(0);
        for (int law = 2; law < 4; law++) {
            tell(x, "y:" + law);
            x.text(1);
        }
        for (int i = 2; i < 10; i++) {
            x.seen(7, true);
        }
        tell(x, "y:13" + " ".repeat(236));
        return x;
    }

    /** As told, and no ACT yet, nor an IMAGE. */
    private static OwedDays fresh() {
        return parish("sp1;rw30;ra1b2w50e3;h;h");
    }

    private static OwedDays last() {
        OwedDays x = fresh();
        for (int i = 0; i < 66; i++) {
            x.seasons(60);
        }
        x.seasons(38);
        x.image();
        x.seasons(1);
        return x;
    }

    private static Method named(String name) {
        for (Method method : OwedDays.class.getMethods()) {
            if (method.getName().equals(name) && method.getDeclaringClass() == OwedDays.class) {
                return method;
            }
        }
        throw new IllegalStateException(name);
    }

    /** A call told as a text, as "work(0, 1, 2)"; a boolean answers 1 or 0. */
    private static long answer(OwedDays x, String call) {
        int open = call.indexOf('(');
        Method method = named(call.substring(0, open));
        String inside = call.substring(open + 1, call.length() - 1);
        String[] texts = inside.isEmpty() ? new String[0] : inside.split(", ");
        Class<?>[] types = method.getParameterTypes();
        Object[] args = new Object[types.length];
        for (int i = 0; i < args.length; i++) {
            if (types[i] == boolean.class) {
                args[i] = texts[i].equals("true");
            } else if (types[i] == long.class) {
                args[i] = Long.parseLong(texts[i]);
            } else {
                args[i] = Integer.parseInt(texts[i]);
            }
        }
        try {
            Object answer = method.invoke(x, args);
            return answer instanceof Boolean ? (Boolean) answer ? 1 : 0 : (Integer) answer;
        } catch (InvocationTargetException e) {
            if (e.getCause().getClass() == NoSuchElementException.class) {
                return THROWN;
            }
            throw new IllegalStateException(call + " threw " + e.getCause());
        } catch (IllegalAccessException e) {
            throw new IllegalStateException(call);
        }
    }

    private static void refused(Supplier<OwedDays> state, long due, int status, String... calls) {
        for (String call : calls) {
            OwedDays x = state.get();
            OwedDays y = state.get();
            is(call, answer(x, call), due);
            for (int what = 0; what < 5; what++) {
                is("status(" + what + ") behind " + call, x.status(what), y.status(what) + (what == status ? 1 : 0));
            }
            allStands(state, call);
        }
    }

    /** Each view on objects of its own, so that none is used for more than 512 calls. */
    private static void allStands(Supplier<OwedDays> state, String call) {
        is("all behind " + call, Probe.all(behind(state, call)), Probe.all(state.get()));
        is("acts behind " + call, Probe.acts(behind(state, call)), Probe.acts(state.get()));
        is("the image behind " + call, Probe.image(behind(state, call)), Probe.image(state.get()));
    }

    private static OwedDays behind(Supplier<OwedDays> state, String call) {
        OwedDays x = state.get();
        answer(x, call);
        return x;
    }

    /** A ? of the call becomes each of these numbers in turn, and the least and greatest int. */
    private static void refusedBy(Supplier<OwedDays> state, long due, int status, String call, int... numbers) {
        for (int number : numbers) {
            refused(state, due, status, call.replace("?", "" + number));
        }
        refused(state, due, status, call.replace("?", MIN), call.replace("?", MAX));
    }

    private static void withoutAParish() {
        about("no PARISH");
        Supplier<OwedDays> none = RefusalTest::none;
        refused(none, NONE, NO_STATUS, "rule(0)", "rule(1)", "rule(2)", "stretch(0, 0)", "stretch(0, 2)", "haul(0, 0)", "does(0, 0, 0)",
            "does(0, 0, 2)", "years(1, 1)", "years(0, 1)", "undo()", "log(0, 0)", "least(0, 99, 0)", "way(0, 0, 0)", "way(0, 1, 1)",
            "worth(0)", "buys()", "rests(0, 1, 0, -1)", "road(0)", "shares(0, 0)", "seen(1, true)", "seen(0, true)", "feigned(0, -1)",
            "feigned(0, 0)", "honest(0)", "best(0)", "whose(0, 0)", "fails(0)", "fails(1)", "odds(0, 0, 0)", "toll(1, 0)", "toll(1, 1)",
            "worst()", "ends()", "cut()", "neighbours(0)", "image()", "back()");
        refused(none, NONE, 0, "work(0, 0, 0)", "work(0, 0, 9)", "pay(0, 1)", "pay(0, 0)", "ditch(0)", "seasons(1)", "seasons(0)");
        refused(none, THROWN, NO_STATUS, "house(0, 0)", "house(0, 3)");
        refused(none, HIDDEN, NO_STATUS, "game(0, 1, 0, 0, 0, 0)");
    }

    private static void textsAndLaws() {
        about("promises 3, 4, 5, 9");
        for (Supplier<OwedDays> state : java.util.List.<Supplier<OwedDays>>of(RefusalTest::none, RefusalTest::rich)) {
            refusedBy(state, 0, NO_STATUS, "end(?)", -1, 5, 240);
            refusedBy(state, -2, NO_STATUS, "fault(?)", -2, -1, 2, 3);
            refusedBy(state, NONE, NO_STATUS, "text(?)", -2, -1, 2, 3);
            refused(state, NONE, NO_STATUS, "text(0)", "text(1)");
            refusedBy(state, 0, NO_STATUS, "law(?)", -2, 2, 3, 4);
        }
        refused(OwedDays::new, NONE, NO_STATUS, "text(0)", "text(1)");
        refused(OwedDays::new, 0, NO_STATUS, "law(0)", "end(1)");
    }

    private static void whatIsFull() {
        about("more than 240, there are four LAWS, there are ten");
        refused(RefusalTest::full, NONE, NO_STATUS, "feed(0, 0, 0, 0, 1)", "feed(16777216, 0, 0, 0, 0)", "feed(-1, -1, -1, -1, -1)",
            "feed(0, 0, 1, 0, 0)", "text(1)", "text(0)", "seen(1, true)", "seen(7, false)");
        refusedBy(RefusalTest::full, 0, NO_STATUS, "law(?)", -2, 4, 5);
        OwedDays x = full();
        is("240 bytes", x.count(3), 240);
        is("a law", x.fault(1), NONE);
        is("four laws", x.count(2), 4);
        is("nothing more may come", x.feed(0, 0, 0, 0, 0), 240);
        is("room for nineteen", x.end(221), true);
        is("twenty", x.feed(-1, -1, -1, -1, -1), NONE);
        is("nineteen", x.feed(-1, -1, -1, -1, -256), 240);
    }

    private static void whatIsTold() {
        about("promises 6, 7, 8, 17, 19, 42");
        Supplier<OwedDays> rich = RefusalTest::rich;
        refusedBy(rich, NONE, NO_STATUS, "rule(?)", -1, 3, 4);
        refusedBy(rich, NONE, NO_STATUS, "stretch(?, 0)", -1, 3, 9);
        refusedBy(rich, NONE, NO_STATUS, "stretch(0, ?)", -1, 5, 6);
        refusedBy(rich, THROWN, NO_STATUS, "house(?, 0)", -1, 3, 6);
        refusedBy(rich, THROWN, NO_STATUS, "house(0, ?)", -1, 5, 6);
        refusedBy(rich, THROWN, NO_STATUS, "house(3, ?)", -1, 0, 5);
        refusedBy(rich, NONE, NO_STATUS, "status(?)", -1, 5, 6);
        refusedBy(rich, NONE, NO_STATUS, "log(?, 0)", -1, 6, 60);
        refusedBy(rich, NONE, NO_STATUS, "log(0, ?)", -1, 3, 4);
        refusedBy(rich, HIDDEN, NO_STATUS, "count(?)", -1, 14, 15);
    }

    private static void refusedActs() {
        about("promises 12 to 16");
        Supplier<OwedDays> rich = RefusalTest::rich;
        refusedBy(rich, NONE, 0, "work(?, 0, 0)", -1, 3, 6);
        refusedBy(rich, NONE, 0, "work(0, ?, 0)", -1, 3, 9);
        refusedBy(rich, NONE, 0, "work(3, 0, ?)", -1, 0, 4);
        refusedBy(rich, NONE, 1, "work(0, 0, ?)", -1, 4, 5);
        refusedBy(rich, NONE, 1, "work(0, 2, ?)", -1, 4);
        refusedBy(rich, NONE, 1, "work(2, 0, ?)", -1, 4);
        refused(rich, NONE, 2, "work(0, 2, 0)", "work(0, 2, 1)", "work(0, 2, 3)", "work(2, 0, 0)", "work(2, 0, 1)", "work(2, 0, 2)",
            "work(2, 0, 3)", "work(2, 2, 2)");
        refusedBy(rich, NONE, 0, "pay(?, 1)", -1, 3, 6);
        refusedBy(rich, NONE, 0, "pay(3, ?)", -1, 0, 1, 10);
        refusedBy(rich, NONE, 1, "pay(0, ?)", -1, 0, 10);
        refusedBy(rich, NONE, 1, "pay(2, ?)", -1, 0, 10);
        refused(rich, NONE, 2, "pay(0, 2)", "pay(0, 9)", "pay(2, 1)", "pay(2, 9)");
        refusedBy(rich, NONE, 0, "ditch(?)", -1, 3, 9);
        refused(rich, NONE, 3, "ditch(2)");
        refused(RefusalTest::fresh, NONE, 3, "ditch(0)", "ditch(1)");
        refused(RefusalTest::oneInTheBox, NONE, 3, "ditch(0)", "ditch(1)");
        refusedBy(rich, NONE, 1, "seasons(?)", -1, 0, 61);
        refusedBy(rich, NONE, NO_STATUS, "years(?, 1)", -1, 0, 61);
        OwedDays x = rich();
        is("house 0 owes one", x.house(0, 3), 1);
        is("house 2 owes none", x.house(2, 3), 0);
        is("enough in the box", x.count(6) >= 2, true);
    }

    private static OwedDays oneInTheBox() {
        OwedDays x = fresh();
        x.pay(0, 1);
        return x;
    }

    private static void refusedAsks() {
        about("promises 10, 11, 20 to 27, 32 to 35, 39");
        Supplier<OwedDays> rich = RefusalTest::rich;
        refusedBy(rich, NONE, NO_STATUS, "haul(?, 0)", -1, 3);
        refusedBy(rich, NONE, NO_STATUS, "haul(0, ?)", -1, 2, 3);
        refusedBy(rich, NONE, NO_STATUS, "does(?, 0, 0)", -1, 2, 3);
        refusedBy(rich, NONE, NO_STATUS, "does(?, 0, 2)", -1, 3);
        refusedBy(rich, NONE, NO_STATUS, "does(0, ?, 1)", -1, 2, 3);
        refusedBy(rich, NONE, NO_STATUS, "does(0, ?, 2)", -1, 3);
        refusedBy(rich, NONE, NO_STATUS, "does(0, 0, ?)", -1, 4);
        refused(rich, NONE, NO_STATUS, "does(0, 2, 3)", "does(2, 0, 3)");
        refusedBy(rich, NONE, NO_STATUS, "least(?, 99, 0)", -1, 3);
        refusedBy(rich, NONE, NO_STATUS, "least(0, ?, 0)", -1, 100);
        refusedBy(rich, NONE, NO_STATUS, "least(0, ?, 1)", -1, 100);
        refusedBy(rich, NONE, NO_STATUS, "least(0, 99, ?)", -1, 2);
        refused(rich, NONE, NO_STATUS, "least(0, 0, 0)", "least(0, 0, 1)", "least(2, 0, 0)");
        refusedBy(rich, NONE, NO_STATUS, "way(?, 0, 0)", -1, 3, 7, 8);
        refusedBy(rich, NONE, NO_STATUS, "way(0, ?, 1)", -1, 5, 7, 8);
        refusedBy(rich, NONE, NO_STATUS, "way(0, 1, ?)", -1, 2);
        refusedBy(rich, NONE, NO_STATUS, "worth(?)", -1, 2, 3);
        refusedBy(rich, HIDDEN, NO_STATUS, "game(?, 1, 0, 0, 0, 0)", -1, 1, 2, 3);
        refusedBy(rich, HIDDEN, NO_STATUS, "game(0, ?, 0, 0, 0, 0)", -1, 0, 2, 3);
        refusedBy(rich, HIDDEN, NO_STATUS, "game(0, 1, ?, 0, 0, 0)", -1, 2, 3);
        refusedBy(rich, HIDDEN, NO_STATUS, "game(0, 1, 0, ?, 0, 0)", -1, 2, 4);
        refusedBy(rich, HIDDEN, NO_STATUS, "game(0, 1, 0, 0, ?, 0)", -1, 2, 4);
        refusedBy(rich, HIDDEN, NO_STATUS, "game(0, 1, 0, 0, 0, ?)", -1, 2);
        refusedBy(rich, NONE, NO_STATUS, "rests(?, 1, 0, -1)", -1, 1, 2, 3);
        refusedBy(rich, NONE, NO_STATUS, "rests(0, ?, 0, -1)", -1, 0, 2, 3);
        refusedBy(rich, NONE, NO_STATUS, "rests(0, 1, ?, -1)", -1, 2, 3);
        refusedBy(rich, NONE, NO_STATUS, "rests(0, 1, 0, ?)", -2, 9);
        refusedBy(rich, NONE, NO_STATUS, "road(?)", -1, 3);
        refusedBy(rich, NONE, NO_STATUS, "shares(?, 1)", -1, 3);
        refusedBy(rich, NONE, NO_STATUS, "shares(0, ?)", -1, 1000);
        refusedBy(rich, NONE, NO_STATUS, "whose(?, 0)", -1, 3);
        refusedBy(rich, NONE, NO_STATUS, "whose(0, ?)", -1, 100);
        refusedBy(rich, NONE, NO_STATUS, "fails(?)", -1, 2);
        refusedBy(rich, NONE, NO_STATUS, "odds(?, 1, 1)", -1, 3);
        refusedBy(rich, NONE, NO_STATUS, "odds(0, ?, 1)", -1, 41);
        refusedBy(rich, NONE, NO_STATUS, "odds(0, 1, ?)", -1, 101);
        refusedBy(rich, NONE, NO_STATUS, "toll(?, 1)", -1, 0, 10);
        refusedBy(rich, NONE, NO_STATUS, "toll(1, ?)", -1, 2);
        refusedBy(rich, NONE, NO_STATUS, "neighbours(?)", -1, 3);
    }

    private static void refusedSightings() {
        about("promises 28 to 31");
        Supplier<OwedDays> rich = RefusalTest::rich;
        refusedBy(rich, NONE, NO_STATUS, "seen(?, true)", -1, 0, 8, 9);
        refusedBy(rich, NONE, NO_STATUS, "seen(?, false)", -1, 0, 8, 15);
        refusedBy(rich, NONE, NO_STATUS, "feigned(?, -1)", -1, 4);
        refusedBy(rich, NONE, NO_STATUS, "feigned(?, 0)", -1, 4);
        refusedBy(rich, NONE, NO_STATUS, "feigned(1, ?)", -2, 1);
        refusedBy(rich, NONE, NO_STATUS, "honest(?)", -1, 0, 3, 4);
        refusedBy(rich, NONE, NO_STATUS, "best(?)", -1, 0, 3, 4);
    }

    /** Apart from the rest: its LOG is long, so that no more than all is looked at. */
    private static void inTheLastSeason() {
        about("beyond the last SEASON");
        String[] calls = {"seasons(1)", "seasons(60)", "seasons(0)", "seasons(61)", "years(1, 1)", "years(60, 1)"};
        int[] status = {4, 4, 1, 1, NO_STATUS, NO_STATUS};
        for (int i = 0; i < calls.length; i++) {
            OwedDays x = last();
            OwedDays y = last();
            is(calls[i], answer(x, calls[i]), NONE);
            for (int what = 0; what < 5; what++) {
                is("status(" + what + ") behind " + calls[i], x.status(what), what == status[i] ? 1 : 0);
            }
            is("all behind " + calls[i], Probe.all(x), Probe.all(y));
            is("an act can be undone", x.undo(), 39);
            is("the season ahead", x.count(5), 3998);
            is("two are beyond from there, too", x.seasons(2), NONE);
            is("the image", x.back(), 3998);
        }
    }

    private static void beforeAnyAct() {
        about("promise 18: NONE: none; promise 41: NONE: no IMAGE of this PARISH; promise 19: NONE: no such ones");
        refused(RefusalTest::fresh, NONE, NO_STATUS, "undo()", "back()", "log(0, 0)", "log(0, 1)", "log(0, 2)");
        refused(RefusalTest::brought, NONE, NO_STATUS, "undo()");
        refused(RefusalTest::toldAnew, NONE, NO_STATUS, "undo()", "back()", "log(0, 0)");
    }

    private static OwedDays brought() {
        OwedDays x = rich();
        x.back();
        return x;
    }

    private static OwedDays toldAnew() {
        OwedDays x = rich();
        x.end(0);
        tell(x, "r;h");
        x.text(0);
        return x;
    }

    private static void asksChangeNothing() {
        about("(Apart, from as it is now): what is asked changes nothing");
        String[] asks = {"fault(0)", "fault(1)", "rule(0)", "stretch(0, 2)", "house(0, 3)", "haul(0, 1)", "does(0, 0, 0)", "does(2, 2, 2)",
            "status(0)", "log(0, 0)", "least(0, 30, 0)", "least(0, 99, 1)", "least(0, 0, 0)", "way(0, 2, 0)", "way(2, 0, 1)", "worth(0)",
            "buys()", "game(0, 1, 0, 0, 0, 0)", "rests(0, 1, 0, -1)", "rests(0, 1, 0, 0)", "road(1)", "shares(1, 999)", "feigned(1, -1)",
            "feigned(1, 0)", "honest(1)", "best(1)", "whose(0, 0)", "fails(0)", "fails(1)", "odds(0, 40, 50)", "toll(9, 0)", "toll(9, 1)",
            "worst()", "ends()", "cut()", "neighbours(0)", "count(0)", "count(13)", "law(1)", "end(4)", "feed(0, 0, 0, 0, 0)"};
        for (String ask : asks) {
            OwedDays x = rich();
            OwedDays y = rich();
            long first = answer(x, ask);
            is(ask + " once more", answer(x, ask), first);
            is("status behind " + ask, Probe.status(x), Probe.status(y));
            allStands(RefusalTest::rich, ask);
        }
    }
}
