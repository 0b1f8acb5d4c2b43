import java.lang.reflect.InvocationTargetException;
import java.lang.reflect.Method;
import java.lang.reflect.Modifier;
import java.nio.file.Files;
import java.nio.file.Path;
import java.util.ArrayList;
import java.util.List;
import java.util.regex.Matcher;
import java.util.regex.Pattern;

/** README.md is run: each call in its blocks of code must answer what stands behind it. */
public final class ReadmeTest extends Checks {
    private static final Path README = Path.of("README.md");
    private static final Path ITSELF = Path.of("src/test/java/ReadmeTest.java");
    private static final Pattern MADE = Pattern.compile("OwedDays parish = new OwedDays\\(\\);");
    private static final Pattern TOLD = Pattern.compile("tell\\(parish, \"([^\"]*)\"\\);");
    private static final Pattern CALLED = Pattern.compile("parish\\.(\\w+)\\(([^)]*)\\); +// ([\\w-]+): .*");

    private static OwedDays parish = null;

    public static void main(String[] args) throws Exception {
        String page = Files.readString(README);
        int runs = 0;
        for (String block : javaBlocks(page)) {
            if (block.startsWith("static ")) {
                feedsAsThisTestDoes(block);
            } else {
                runs++;
                run(block);
            }
        }
        about("README.md");
        is("blocks that were run", runs, 3);
        leavesNoCallOut(page);
        is("it tells the command for all tests", page.contains("```sh\n.ci/run\n```"), true);
        tellAndExit();
    }

    private static List<String> javaBlocks(String page) {
        List<String> blocks = new ArrayList<>();
        Matcher block = Pattern.compile("(?s)```java\n(.*?)```").matcher(page);
        while (block.find()) {
            blocks.add(block.group(1));
        }
        return blocks;
    }

    /** The page's own way to feed a text: as it stands here, so that it is compiled and used. */
    static void tell(OwedDays parish, String text) {
        for (int from = 0; from < text.length(); from += 20) {
            int[] five = new int[5];
            for (int i = 0; i < 20 && from + i < text.length(); i++) {
                five[i / 4] |= (text.charAt(from + i) & 255) << 24 - i % 4 * 8;
            }
            parish.feed(five[0], five[1], five[2], five[3], five[4]);
        }
    }

    private static void feedsAsThisTestDoes(String block) throws Exception {
        about("README.md: a text as bytes of ints");
        String indented = block.strip().replaceAll("(?m)^", "    ");
        is("its tell is the one of ReadmeTest", Files.readString(ITSELF).contains(indented), true);
    }

    private static void run(String block) throws Exception {
        for (String line : block.strip().split("\n")) {
            about("README.md: " + line);
            Matcher told = TOLD.matcher(line);
            Matcher called = CALLED.matcher(line);
            if (MADE.matcher(line).matches()) {
                parish = new OwedDays();
            } else if (told.matches()) {
                tell(parish, told.group(1));
            } else if (called.matches()) {
                is("the call", answer(called.group(1), called.group(2)), due(called.group(3)));
            } else {
                is("a line that can be run", false, true);
            }
        }
    }

    private static String due(String word) {
        return word.equals("NONE") ? "" + NONE : word.equals("HIDDEN") ? "" + HIDDEN : word;
    }

    private static String answer(String name, String given) throws Exception {
        String[] words = given.isEmpty() ? new String[0] : given.split(", ");
        for (Method method : OwedDays.class.getMethods()) {
            if (method.getName().equals(name) && method.getParameterCount() == words.length) {
                return answer(method, words);
            }
        }
        return "no such call";
    }

    private static String answer(Method method, String[] words) throws Exception {
        Object[] numbers = new Object[words.length];
        for (int i = 0; i < words.length; i++) {
            numbers[i] = number(words[i], method.getParameterTypes()[i]);
        }
        try {
            return "" + method.invoke(parish, numbers);
        } catch (InvocationTargetException e) {
            return e.getCause().getClass().getSimpleName();
        }
    }

    private static Object number(String word, Class<?> type) {
        if (type == boolean.class) {
            return Boolean.valueOf(word);
        }
        if (type == long.class) {
            return Long.decode(word.replace("L", ""));
        }
        return Long.decode(word).intValue();
    }

    /** Each call of the class stands in a table, with its parameters by number. */
    private static void leavesNoCallOut(String page) {
        for (Method method : OwedDays.class.getDeclaredMethods()) {
            if (Modifier.isPublic(method.getModifiers())) {
                String words = "\\w+(, \\w+){" + (method.getParameterCount() - 1) + "}";
                String parameters = method.getParameterCount() == 0 ? "" : words;
                Pattern row = Pattern.compile("(?m)^\\| .*`" + method.getName() + "\\(" + parameters + "\\)`");
                is("a table has " + method.getName(), row.matcher(page).find(), true);
            }
        }
    }
}
