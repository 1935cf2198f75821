import com.sun.source.tree.MethodInvocationTree;
import com.sun.source.tree.MethodTree;
import com.sun.source.tree.NewClassTree;
import com.sun.source.util.JavacTask;
import com.sun.source.util.TreePathScanner;
import com.sun.source.util.Trees;
import java.util.List;
import java.util.Map;
import java.util.Set;
import java.util.TreeMap;
import java.util.TreeSet;
import javax.lang.model.element.Element;
import javax.tools.JavaCompiler;
import javax.tools.StandardJavaFileManager;
import javax.tools.ToolProvider;

/** What LANGUAGE.md says of calls (rules 4, 8, 11): which of the library, how deep, which recursion; run from the root. */
public final class CallsTest {
    private static final Due D = new Due();
    private static final Set<String> LIBRARY = Set.of("String.length", "String.charAt", "String.indexOf",
        "Math.max", "Math.min", "Math.abs", "Math.floorMod", "Integer.bitCount", "System.arraycopy", "Object.<init>");
    private static final Set<String> READS = Set.of("readEither", "readBoth", "readNot", "readSum", "readTerm", "readOne");
    private static final int DEEP = 8;

    /** Each method, by class and name, and what it calls. */
    private final Map<String, Set<String>> calls = new TreeMap<>();
    private final Map<String, Set<String>> reached = new TreeMap<>();

    public static void main(String[] args) throws Exception {
        CallsTest test = new CallsTest();
        test.scan();
        test.library();
        test.recursion();
        test.depth();
        D.end();
    }

    private void scan() throws Exception {
        JavaCompiler compiler = ToolProvider.getSystemJavaCompiler();
        StandardJavaFileManager files = compiler.getStandardFileManager(null, null, null);
        JavacTask task = (JavacTask) compiler.getTask(null, files, null, List.of("--release", "17"), null,
            files.getJavaFileObjects("src/main/java/ScythesKeepStep.java"));
        var units = task.parse();
        task.analyze();
        new Scanner(Trees.instance(task)).scan(units, null);
    }

    private final class Scanner extends TreePathScanner<Void, Void> {
        private final Trees trees;
        private String caller = "";

        Scanner(Trees trees) {
            this.trees = trees;
        }

        @Override
        public Void visitMethod(MethodTree method, Void nothing) {
            String outer = caller;
            caller = name(trees.getElement(getCurrentPath()));
            calls.computeIfAbsent(caller, c -> new TreeSet<>());
            super.visitMethod(method, nothing);
            caller = outer;
            return null;
        }

        @Override
        public Void visitMethodInvocation(MethodInvocationTree call, Void nothing) {
            note();
            return super.visitMethodInvocation(call, nothing);
        }

        @Override
        public Void visitNewClass(NewClassTree made, Void nothing) {
            note();
            return super.visitNewClass(made, nothing);
        }

        private void note() {
            calls.computeIfAbsent(caller, c -> new TreeSet<>()).add(name(trees.getElement(getCurrentPath())));
        }
    }

    private static String name(Element method) {
        return method.getEnclosingElement().getSimpleName() + "." + method.getSimpleName();
    }

    private void library() {
        for (String caller : calls.keySet()) {
            for (String callee : calls.get(caller)) {
                D.holds(caller + " calls " + callee, calls.containsKey(callee) || LIBRARY.contains(callee));
            }
        }
        D.holds("methods found: " + calls.size(), calls.size() > 90);
    }

    /** All that a method reaches by calls. */
    private Set<String> reach(String method) {
        Set<String> found = reached.get(method);
        if (found == null) {
            found = new TreeSet<>();
            reached.put(method, found);
            collect(method, found);
        }
        return found;
    }

    private void collect(String method, Set<String> found) {
        for (String callee : calls.getOrDefault(method, Set.of())) {
            if (found.add(callee)) {
                collect(callee, found);
            }
        }
    }

    private void recursion() {
        for (String method : calls.keySet()) {
            boolean again = reach(method).contains(method);
            boolean reads = method.startsWith("Reader.") && READS.contains(method.substring(7));
            D.holds(method + " calls itself: " + again, again == reads);
        }
    }

    /** Methods that call one another count as one. */
    private int deep(String method) {
        int deepest = 0;
        for (String callee : calls.getOrDefault(method, Set.of())) {
            boolean own = calls.containsKey(callee);
            boolean again = own && reach(callee).contains(method);
            if (own && !again) {
                deepest = Math.max(deepest, deep(callee));
            } else if (again) {
                deepest = Math.max(deepest, deepOfAll(method) - 1);
            }
        }
        return deepest + 1;
    }

    /** How deep those go that call one another with that method. */
    private int deepOfAll(String method) {
        int deepest = 0;
        for (String member : reach(method)) {
            if (reach(member).contains(method)) {
                for (String callee : calls.getOrDefault(member, Set.of())) {
                    if (calls.containsKey(callee) && !reach(callee).contains(method)) {
                        deepest = Math.max(deepest, deep(callee));
                    }
                }
            }
        }
        return deepest + 1;
    }

    private void depth() {
        for (String method : calls.keySet()) {
            D.holds(method + " goes " + deep(method) + " deep", deep(method) <= DEEP);
        }
    }
}
