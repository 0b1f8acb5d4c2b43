import java.lang.reflect.InvocationTargetException;
import java.lang.reflect.Method;
import java.util.ArrayList;
import java.util.HashMap;
import java.util.List;
import java.util.Map;
import java.util.Random;

/** Runs of random calls, by fixed seeds, on OwedDays and on Twin: every answer must be alike. */
public final class TwinTest {
    private static final int RUNS = 600;
    private static final int CALLS = 512;
    private static final int TEXTS = 30000;
    private static final int SHOWN = 20;
    /** What each int of a call is: see Run.number; a digit is for how many there are. */
    private static final Map<String, String> ROLES = new HashMap<>();
    private static int wrong = 0;

    static {
        String roles = "feed fffff,end z,fault 2,text 2,rule 3,stretch s5,house h5,law l,haul hs,does hsk,work hsk,pay hd,"
                + "ditch s,seasons n,years n,status 5,log i3,least sw2,way pp2,worth h,game hhskk2,rests hhsi,road h,shares hc,"
                + "seen b,feigned ki,honest k,best k,whose se,fails 2,odds sox,toll t2,neighbours s,count 0";
        for (String role : roles.split(",")) {
            ROLES.put(role.split(" ")[0], role.split(" ")[1]);
        }
    }

    public static void main(String[] args) throws Exception {
        for (int seed = 0; seed < RUNS && wrong < SHOWN; seed++) {
            new Run(seed).all();
        }
        for (int seed = 0; seed < TEXTS && wrong < SHOWN; seed++) {
            text(new Random(seed * 31L + 7));
        }
        System.out.println(wrong == 0 ? "both answer alike" : wrong + " answers differ");
        if (wrong != 0) {
            System.exit(1);
        }
    }

    private static void text(Random random) {
        String text = random.nextBoolean() ? Texts.parish(random) : Texts.law(random);
        text = Texts.spoilt(text, random);
        OwedDays one = new OwedDays();
        Twin other = new Twin();
        for (int[] five : Texts.fives(text)) {
            one.feed(five[0], five[1], five[2], five[3], five[4]);
            other.feed(five[0], five[1], five[2], five[3], five[4]);
        }
        for (int sort = 0; sort < 2; sort++) {
            if (one.fault(sort) != other.fault(sort)) {
                wrong++;
                System.out.println("fault(" + sort + ") of '" + text + "': " + one.fault(sort) + ", twin " + other.fault(sort));
            }
        }
    }

    private static final class Run {
        private final int seed;
        private final Random random;
        private final OwedDays one = new OwedDays();
        private final Twin other = new Twin();
        private final List<Method> methods = new ArrayList<>();
        private final List<String> calls = new ArrayList<>();
        private int made = 0;

        Run(int seed) {
            this.seed = seed;
            random = new Random(seed);
            for (Method method : OwedDays.class.getDeclaredMethods()) {
                if (java.lang.reflect.Modifier.isPublic(method.getModifiers())) {
                    methods.add(method);
                }
            }
            // What reflection answers has no promised order, and a seed shall tell one run.
            methods.sort((a, b) -> a.getName().compareTo(b.getName()));
        }

        void all() throws Exception {
            boolean goesFar = random.nextInt(12) == 0;
            while (made < CALLS && wrong < SHOWN) {
                int turn = random.nextInt(goesFar ? 40 : 100);
                if (made == 0 && random.nextInt(10) > 0 || turn < 1) {
                    tell(Texts.parish(random), 0);
                } else if (turn < 3) {
                    tell(Texts.law(random), 1);
                } else if (turn < 5) {
                    call(named("law"), new Object[] {random.nextInt(6) - 1});
                } else if (turn < 12) {
                    call(named("work"), args(named("work")));
                } else if (goesFar && turn < 36) {
                    call(named(random.nextInt(4) == 0 ? "years" : "seasons"), new Object[] {40 + random.nextInt(21), (long) random.nextInt()});
                } else {
                    Method method = methods.get(random.nextInt(methods.size()));
                    call(method, args(method));
                }
            }
        }

        private void tell(String text, int sort) throws Exception {
            if (random.nextInt(4) > 0) {
                call(named("end"), new Object[] {0});
            }
            for (int[] five : Texts.fives(text)) {
                call(named("feed"), new Object[] {five[0], five[1], five[2], five[3], five[4]});
            }
            call(named("text"), new Object[] {sort});
        }

        private Method named(String name) {
            for (Method method : methods) {
                if (method.getName().equals(name)) {
                    return method;
                }
            }
            throw new IllegalStateException(name);
        }

        private Object[] args(Method method) {
            Class<?>[] types = method.getParameterTypes();
            Object[] args = new Object[types.length];
            for (int i = 0; i < args.length; i++) {
                if (types[i] == boolean.class) {
                    args[i] = random.nextBoolean();
                } else if (types[i] == long.class) {
                    args[i] = random.nextLong();
                } else {
                    args[i] = number(ROLES.get(method.getName()).charAt(i));
                }
            }
            return args;
        }

        /** Mostly a number that there is, at times one beside the bounds, seldom any at all. */
        private int number(char role) {
            int luck = random.nextInt(40);
            if (luck == 0) {
                return random.nextInt();
            }
            if (luck == 1) {
                return new int[] {Integer.MIN_VALUE, Integer.MAX_VALUE, -2, -1, 1000, 100, 101, 41, 61, 64}[random.nextInt(10)];
            }
            switch (role) {
                case 'h':
                    return near(0, one.count(1) - 1);
                case 's':
                    return near(0, one.count(0) - 1);
                case 'p':
                    return near(0, 7);
                case 'k':
                    return near(0, 3);
                case 'w':
                    return near(0, 99);
                case 'e':
                    return random.nextInt(4) == 0 ? near(0, 99) : near(0, 12);
                case 'c':
                    return near(0, 999);
                case 'n':
                    return random.nextInt(10) == 0 ? near(1, 60) : near(1, 5);
                case 'b':
                    return near(1, (1 << one.count(1)) - 1);
                case 'i':
                    return near(-1, random.nextBoolean() ? 3 : 60);
                case 'o':
                    return near(0, random.nextBoolean() ? 6 : 40);
                case 'x':
                    return near(0, 100);
                case 't':
                    return near(1, 9);
                case 'd':
                    return near(1, random.nextBoolean() ? 2 : 9);
                case 'l':
                    return near(-1, one.count(2) - 1);
                case 'z':
                    return near(0, random.nextBoolean() ? 0 : 60);
                case 'f':
                    return random.nextInt(3) == 0 ? random.nextInt() : 0;
                case '0':
                    return near(0, 13);
                default:
                    return near(0, role - '1');
            }
        }

        private int near(int low, int high) {
            int beside = random.nextInt(16);
            if (beside == 0 || high < low) {
                return low - 1;
            }
            return beside == 1 ? high + 1 : low + random.nextInt(high - low + 1);
        }

        private void call(Method method, Object[] given) throws Exception {
            Object[] args = new Object[method.getParameterCount()];
            System.arraycopy(given, 0, args, 0, args.length);
            made++;
            Object got = answer(method, one, args);
            Object due = answer(Twin.class.getMethod(method.getName(), method.getParameterTypes()), other, args);
            calls.add(method.getName() + java.util.Arrays.toString(args) + " = " + got);
            if (!got.equals(due)) {
                wrong++;
                System.out.println("run " + seed + ", call " + made + ": " + calls.get(calls.size() - 1) + ", twin " + due);
            }
        }

        private static Object answer(Method method, Object object, Object[] args) throws Exception {
            try {
                return method.invoke(object, args);
            } catch (InvocationTargetException e) {
                return e.getCause().getClass().getName();
            }
        }
    }
}
