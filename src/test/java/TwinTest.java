import java.lang.reflect.InvocationTargetException;
import java.lang.reflect.Method;
import java.util.ArrayList;
import java.util.List;
import java.util.Random;

/** Runs of random calls, by fixed seeds, on OwedDays and on Twin: every answer must be alike. */
public final class TwinTest {
    private static final int RUNS = 600;
    private static final int CALLS = 512;
    private static final int TEXTS = 30000;
    private static final int SHOWN = 20;
    private static int wrong = 0;

    public static void main(String[] args) throws Exception {
        for (int seed = 0; seed < RUNS && wrong < SHOWN; seed++) {
            new Run(seed).all();
        }
        for (int seed = 0; seed < TEXTS && wrong < SHOWN; seed++) {
            text(new Random(seed * 31L + 7));
        }
        System.out.println(wrong == 0 ? "both answer alike" : wrong + " answers differ");
        if (wrong != 0) {
            System.exit(1);
        }
    }

    private static void text(Random random) {
        String text = random.nextBoolean() ? Texts.parish(random) : Texts.law(random);
        text = Texts.spoilt(text, random);
        OwedDays one = new OwedDays();
        Twin other = new Twin();
        for (int[] five : Texts.fives(text)) {
            one.feed(five[0], five[1], five[2], five[3], five[4]);
            other.feed(five[0], five[1], five[2], five[3], five[4]);
        }
        for (int sort = 0; sort < 2; sort++) {
            if (one.fault(sort) != other.fault(sort)) {
                wrong++;
                System.out.println("fault(" + sort + ") of '" + text + "': " + one.fault(sort) + ", twin " + other.fault(sort));
            }
        }
    }

    private static final class Run {
        private final int seed;
        private final Random random;
        private final OwedDays one = new OwedDays();
        private final Twin other = new Twin();
        private final List<Method> methods = new ArrayList<>();
        private final List<String> calls = new ArrayList<>();
        private int made = 0;

        Run(int seed) {
            this.seed = seed;
            random = new Random(seed);
            for (Method method : OwedDays.class.getDeclaredMethods()) {
                if (java.lang.reflect.Modifier.isPublic(method.getModifiers())) {
                    methods.add(method);
                }
            }
            // What reflection answers has no promised order, and a seed shall tell one run.
            methods.sort((a, b) -> a.getName().compareTo(b.getName()));
        }

        void all() throws Exception {
            boolean goesFar = random.nextInt(12) == 0;
            while (made < CALLS && wrong < SHOWN) {
                int turn = random.nextInt(goesFar ? 40 : 100);
                if (made == 0 && random.nextInt(10) > 0 || turn < 1) {
                    tell(Texts.parish(random), 0);
                } else if (turn < 3) {
                    tell(Texts.law(random), 1);
                } else if (turn < 5) {
                    call(named("law"), new Object[] {random.nextInt(6) - 1});
                } else if (turn < 12) {
                    call(named("work"), new Object[] {random.nextInt(6), random.nextInt(9), random.nextInt(4)});
                } else if (goesFar && turn < 36) {
                    call(named(random.nextInt(4) == 0 ? "years" : "seasons"), new Object[] {40 + random.nextInt(21), (long) random.nextInt()});
                } else {
                    Method method = methods.get(random.nextInt(methods.size()));
                    call(method, args(method));
                }
            }
        }

        private void tell(String text, int sort) throws Exception {
            if (random.nextInt(4) > 0) {
                call(named("end"), new Object[] {0});
            }
            for (int[] five : Texts.fives(text)) {
                call(named("feed"), new Object[] {five[0], five[1], five[2], five[3], five[4]});
            }
            call(named("text"), new Object[] {sort});
        }

        private Method named(String name) {
            for (Method method : methods) {
                if (method.getName().equals(name)) {
                    return method;
                }
            }
            throw new IllegalStateException(name);
        }

        private Object[] args(Method method) {
            Class<?>[] types = method.getParameterTypes();
            Object[] args = new Object[types.length];
            for (int i = 0; i < args.length; i++) {
                if (types[i] == boolean.class) {
                    args[i] = random.nextBoolean();
                } else if (types[i] == long.class) {
                    args[i] = random.nextLong();
                } else {
                    args[i] = number(method.getName(), i);
                }
            }
            return args;
        }

        private int number(String name, int i) {
            int luck = random.nextInt(60);
            if (luck == 0) {
                return random.nextInt();
            }
            if (luck == 1) {
                return new int[] {Integer.MIN_VALUE, Integer.MAX_VALUE, -2, -1, 1000, 100, 101, 41, 61, 64}[random.nextInt(10)];
            }
            switch (name) {
                case "shares":
                    return i == 1 ? random.nextInt(1010) - 3 : random.nextInt(8) - 1;
                case "least":
                    return i == 1 ? random.nextInt(105) - 2 : random.nextInt(i == 2 ? 3 : 9);
                case "odds":
                    return i == 0 ? random.nextInt(9) : i == 1 ? random.nextInt(43) : random.nextInt(103);
                case "whose":
                    return i == 1 ? random.nextInt(30) - 1 : random.nextInt(9);
                case "seen":
                    return random.nextInt(random.nextBoolean() ? 8 : 66);
                case "count":
                    return random.nextInt(16) - 1;
                case "log":
                    return i == 0 ? random.nextInt(63) - 1 : random.nextInt(5) - 1;
                case "way":
                    return random.nextInt(i == 2 ? 2 : 9);
                case "toll":
                    return random.nextInt(i == 0 ? 11 : 3);
                case "end":
                    return random.nextInt(50) - 1;
                case "seasons":
                case "years":
                    return random.nextInt(10) == 0 ? random.nextInt(63) : random.nextInt(6);
                case "fails":
                    return random.nextInt(2);
                case "game":
                    return i < 2 ? random.nextInt(6) : i == 2 ? random.nextInt(9) : random.nextInt(4);
                case "rests":
                    return i == 3 ? random.nextInt(5) - 1 : random.nextInt(6);
                default:
                    return random.nextInt(11) - 1;
            }
        }

        private void call(Method method, Object[] given) throws Exception {
            Object[] args = new Object[method.getParameterCount()];
            System.arraycopy(given, 0, args, 0, args.length);
            made++;
            Object got = answer(method, one, args);
            Object due = answer(Twin.class.getMethod(method.getName(), method.getParameterTypes()), other, args);
            calls.add(method.getName() + java.util.Arrays.toString(args) + " = " + got);
            if (!got.equals(due)) {
                wrong++;
                System.out.println("run " + seed + ", call " + made + ": " + calls.get(calls.size() - 1) + ", twin " + due);
            }
        }

        private static Object answer(Method method, Object object, Object[] args) throws Exception {
            try {
                return method.invoke(object, args);
            } catch (InvocationTargetException e) {
                return e.getCause().getClass().getName();
            }
        }
    }
}
