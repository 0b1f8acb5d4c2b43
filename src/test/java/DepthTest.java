import com.sun.source.tree.CompilationUnitTree;
import com.sun.source.tree.MethodInvocationTree;
import com.sun.source.tree.MethodTree;
import com.sun.source.tree.NewClassTree;
import com.sun.source.util.JavacTask;
import com.sun.source.util.TreePathScanner;
import com.sun.source.util.Trees;
import java.nio.file.Path;
import java.util.ArrayList;
import java.util.HashMap;
import java.util.LinkedHashMap;
import java.util.List;
import java.util.Map;
import java.util.Set;
import java.util.TreeSet;
import javax.lang.model.element.Element;
import javax.tools.JavaCompiler;
import javax.tools.StandardJavaFileManager;
import javax.tools.ToolProvider;

/** Rules 8 and 11 of LANGUAGE.md: which methods call which, as javac itself reads the source. */
public final class DepthTest extends Checks {
    private static final Path SOURCE = Path.of("src/main/java/OwedDays.java");
    private static final int MOST_DEEP = 8;

    private static final Map<String, Set<String>> CALLS = new LinkedHashMap<>();
    private static final Map<String, Set<String>> REACHED = new HashMap<>();
    private static final Map<String, List<String>> LONGEST = new HashMap<>();

    public static void main(String[] args) throws Exception {
        readCalls();
        about("the methods of the source");
        is("all were found", CALLS.size() > 150, true);
        onlyTheseRecur();
        eightDeep();
        tellAndExit();
    }

    private static void readCalls() throws Exception {
        JavaCompiler compiler = ToolProvider.getSystemJavaCompiler();
        try (StandardJavaFileManager files = compiler.getStandardFileManager(null, null, null)) {
            JavacTask task = (JavacTask) compiler.getTask(null, files, null, null, null, files.getJavaFileObjects(SOURCE));
            Iterable<? extends CompilationUnitTree> units = task.parse();
            task.analyze();
            for (CompilationUnitTree unit : units) {
                new Reader(Trees.instance(task)).scan(unit, null);
            }
        }
        for (Set<String> called : CALLS.values()) {
            called.retainAll(CALLS.keySet());
        }
    }

    private static final class Reader extends TreePathScanner<Void, Void> {
        private final Trees trees;
        private String within = null;

        Reader(Trees trees) {
            this.trees = trees;
        }

        private String here() {
            Element element = trees.getElement(getCurrentPath());
            return element == null ? "?" : element.getEnclosingElement().getSimpleName() + "." + element;
        }

        private void note() {
            if (within != null) {
                CALLS.get(within).add(here());
            }
        }

        @Override
        public Void visitMethod(MethodTree method, Void none) {
            within = here();
            CALLS.put(within, new TreeSet<>());
            super.visitMethod(method, none);
            within = null;
            return null;
        }

        @Override
        public Void visitMethodInvocation(MethodInvocationTree call, Void none) {
            note();
            return super.visitMethodInvocation(call, none);
        }

        @Override
        public Void visitNewClass(NewClassTree made, Void none) {
            note();
            return super.visitNewClass(made, none);
        }
    }

    private static Set<String> reachedFrom(String method) {
        if (!REACHED.containsKey(method)) {
            Set<String> reached = new TreeSet<>();
            List<String> open = new ArrayList<>(CALLS.get(method));
            while (!open.isEmpty()) {
                String next = open.remove(open.size() - 1);
                if (reached.add(next)) {
                    open.addAll(CALLS.get(next));
                }
            }
            REACHED.put(method, reached);
        }
        return REACHED.get(method);
    }

    private static boolean recurTogether(String one, String other) {
        return reachedFrom(one).contains(other) && reachedFrom(other).contains(one);
    }

    private static void onlyTheseRecur() {
        about("rule 8: what calls itself carries its depth, or a limit keeps it low");
        Set<String> recurring = new TreeSet<>();
        for (String method : CALLS.keySet()) {
            if (reachedFrom(method).contains(method)) {
                recurring.add(method.replaceAll("\\(.*", ""));
            }
        }
        is("what recurs", recurring.toString(), "[LawReader.readAtom, LawReader.readCondition, LawReader.readSum,"
                + " LawReader.readTerm, LawReader.readTruth, LawReader.readUnit, Outlook.leastRow]");
    }

    private static void eightDeep() {
        about("rule 11: calls that are no recursion go at most eight deep (methods that recur together count as one)");
        for (String method : CALLS.keySet()) {
            List<String> longest = longestFrom(method);
            is("how deep " + String.join(" > ", longest) + " goes, beyond eight", Math.max(0, longest.size() - MOST_DEEP), 0);
        }
    }

    private static List<String> longestFrom(String method) {
        if (LONGEST.containsKey(method)) {
            return LONGEST.get(method);
        }
        List<String> rest = List.of();
        for (String member : CALLS.keySet()) {
            if (member.equals(method) || recurTogether(member, method)) {
                for (String called : CALLS.get(member)) {
                    boolean goesOn = !called.equals(method) && !recurTogether(called, method);
                    if (goesOn && longestFrom(called).size() > rest.size()) {
                        rest = longestFrom(called);
                    }
                }
            }
        }
        List<String> longest = new ArrayList<>(List.of(method));
        longest.addAll(rest);
        LONGEST.put(method, longest);
        return longest;
    }
}
