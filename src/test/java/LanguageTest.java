import java.lang.reflect.Constructor;
import java.lang.reflect.Field;
import java.lang.reflect.Method;
import java.lang.reflect.Modifier;
import java.nio.file.Files;
import java.nio.file.Path;
import java.util.Arrays;
import java.util.List;
import java.util.Set;
import java.util.TreeSet;
import java.util.regex.Matcher;
import java.util.regex.Pattern;
import java.util.stream.Collectors;

/** The public face, and those rules of LANGUAGE.md that can be seen in the source or by reflection. */
public final class LanguageTest {
    private static final String SOURCE = "src/main/java/OwedDays.java";
    private static final String FACE = "feed int,int,int,int,int:int; end int:boolean; fault int:int; text int:int; rule int:int;"
            + " stretch int,int:int; house int,int:int; law int:boolean; haul int,int:int; does int,int,int:int; work int,int,int:int;"
            + " pay int,int:int; ditch int:int; seasons int:int; years int,long:int; status int:int; undo :int; log int,int:int;"
            + " least int,int,int:int; way int,int,int:int; worth int:int; buys :int; game int,int,int,int,int,int:int;"
            + " rests int,int,int,int:int; road int:int; shares int,int:int; seen int,boolean:int; feigned int,int:int; honest int:int;"
            + " best int:int; whose int,int:int; fails int:int; odds int,int,int:int; toll int,int:int; worst :int; ends :int; cut :int;"
            + " neighbours int:int; image :int; back :int; count int:int";
    private static int wrong = 0;

    public static void main(String[] args) throws Exception {
        face();
        classes();
        String source = Files.readString(Path.of(SOURCE));
        words(source);
        lengths(source);
        System.out.println(wrong == 0 ? "the language is kept to" : wrong + " places are not as LANGUAGE.md asks");
        if (wrong != 0) {
            System.exit(1);
        }
    }

    private static void expect(boolean holds, String what) {
        if (!holds) {
            wrong++;
            System.out.println(what);
        }
    }

    private static void face() throws Exception {
        Set<String> due = new TreeSet<>(Arrays.asList(FACE.split("; ")));
        Set<String> got = new TreeSet<>();
        for (Method method : OwedDays.class.getDeclaredMethods()) {
            int modifiers = method.getModifiers();
            if (Modifier.isPublic(modifiers)) {
                String types = Arrays.stream(method.getParameterTypes()).map(Class::getName).collect(Collectors.joining(","));
                got.add(method.getName() + " " + types + ":" + method.getReturnType().getName());
                expect(!Modifier.isStatic(modifiers), "static: " + method);
            } else {
                expect(Modifier.isPrivate(modifiers), "neither public nor private: " + method);
            }
        }
        expect(due.equals(got), "the face is " + got);
        for (Field field : OwedDays.class.getDeclaredFields()) {
            boolean constant = List.of("NONE", "HIDDEN").contains(field.getName());
            expect(constant ? Modifier.isPublic(field.getModifiers()) : Modifier.isPrivate(field.getModifiers()), "visible: " + field);
        }
        expect(OwedDays.NONE == -1 && OwedDays.HIDDEN == -1000000, "the constants");
        Constructor<?>[] constructors = OwedDays.class.getDeclaredConstructors();
        expect(constructors.length == 1 && Modifier.isPublic(constructors[0].getModifiers()), "one public constructor");
        expect(constructors[0].getParameterCount() == 0, "a constructor without parameters");
        expect(Modifier.isFinal(OwedDays.class.getModifiers()), "a final class");
    }

    private static void classes() {
        Class<?>[] inside = OwedDays.class.getDeclaredClasses();
        expect(inside.length < 12, "classes: " + (inside.length + 1));
        Set<String> face = Arrays.stream(FACE.split("; ")).map(m -> m.split(" ")[0]).collect(Collectors.toSet());
        for (Class<?> one : inside) {
            expect(Modifier.isStatic(one.getModifiers()), "not static: " + one);
            long fields = Arrays.stream(one.getDeclaredFields()).filter(f -> !Modifier.isStatic(f.getModifiers())).count();
            expect(fields <= 20, "fields of " + one + ": " + fields);
            for (Field field : one.getDeclaredFields()) {
                expect(!Modifier.isStatic(field.getModifiers()) || Modifier.isFinal(field.getModifiers()), "static state: " + field);
            }
            for (Method method : one.getDeclaredMethods()) {
                expect(!face.contains(method.getName()), "a name of the face: " + method);
                expect(method.getParameterCount() <= 7, "parameters: " + method);
            }
        }
    }

    private static void words(String source) {
        String code = source.replaceAll("(?s)/\\*.*?\\*/", "").replaceAll("//[^\n]*", "");
        for (String word : new String[] {"try", "catch", "finally", "synchronized", "assert", "var", "native", "volatile"}) {
            expect(!Pattern.compile("\\b" + word + "\\b").matcher(code).find(), "the word " + word);
        }
        for (String sign : new String[] {"->", "::", "@", "static {", "package ", "String.", "System.out", "Exact", "instanceof"}) {
            expect(!code.contains(sign), "the sign " + sign);
        }
        Matcher imports = Pattern.compile("import ([^;]*);").matcher(code);
        while (imports.find()) {
            expect(List.of("java.util.Arrays", "java.util.NoSuchElementException").contains(imports.group(1)), imports.group());
        }
        Matcher made = Pattern.compile("(?m)^.*\\bnew\\b.*$").matcher(code);
        while (made.find()) {
            // What is made goes to a field, in a constructor: no call makes an object of its own.
            boolean toField = made.group().matches("\\s+[a-zA-Z]+(\\[law\\])? = new .*");
            boolean thrown = made.group().matches("\\s+throw new NoSuchElementException\\(\"[a-zA-Z ]+\"\\);");
            expect(toField || thrown, "made: " + made.group().strip());
        }
        for (int i = 0; i < source.length(); i++) {
            expect(source.charAt(i) < 128, "a sign above 127 at " + i);
        }
    }

    private static void lengths(String source) {
        String[] lines = source.split("\n");
        int begun = -1;
        for (int i = 0; i < lines.length; i++) {
            if (lines[i].matches("( {4}| {8})[a-zA-Z].*\\) (throws [A-Za-z]+ )?\\{")) {
                begun = i;
            } else if (begun >= 0 && lines[i].matches("( {4}| {8})\\}")) {
                expect(i - begun < 60, "lines from " + (begun + 1) + " to " + (i + 1));
                begun = -1;
            }
            expect(lines[i].length() <= 120, "a long line: " + (i + 1));
        }
    }
}
