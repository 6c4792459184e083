import com.sun.source.tree.CompilationUnitTree;
import com.sun.source.tree.MethodInvocationTree;
import com.sun.source.tree.MethodTree;
import com.sun.source.util.JavacTask;
import com.sun.source.util.TreePathScanner;
import com.sun.source.util.Trees;
import java.io.IOException;
import java.nio.file.Path;
import java.util.ArrayDeque;
import java.util.Deque;
import java.util.LinkedHashSet;
import java.util.List;
import java.util.Map;
import java.util.Set;
import java.util.TreeMap;
import java.util.TreeSet;
import javax.lang.model.element.Element;
import javax.lang.model.element.ElementKind;
import javax.tools.JavaCompiler;
import javax.tools.StandardJavaFileManager;
import javax.tools.ToolProvider;

/** Rule 11 of LANGUAGE.md: calls that are no recursion go at most eight deep; and rule 8: what calls itself. */
final class CallDepthTests {
    private static final int DEEPEST = 8;
    private static final String RECURSION =
        "[Regular.readAlternatives, Regular.readItem, Regular.readItems]";

    private final Map<String, Set<String>> calls = new TreeMap<>();
    private final Set<String> recursive = new TreeSet<>();
    private final Deque<String> open = new ArrayDeque<>();

    private CallDepthTests() {
    }

    static void check(Checks checks, Path source) throws IOException {
        CallDepthTests all = new CallDepthTests();
        all.read(source);
        for (String method : all.calls.keySet()) {
            if (method.startsWith("Suffixhall.")) {
                int depth = all.depthOf(method);
                checks.isTrue(method + " goes at most eight deep, not " + depth, depth <= DEEPEST);
            }
        }
        checks.same("what calls itself", RECURSION, all.recursive.toString());
    }

    private void read(Path source) throws IOException {
        JavaCompiler compiler = ToolProvider.getSystemJavaCompiler();
        try (StandardJavaFileManager files = compiler.getStandardFileManager(null, null, null)) {
            JavacTask task = (JavacTask) compiler.getTask(null, files, null, List.of("-proc:none"), null,
                files.getJavaFileObjects(source));
            Iterable<? extends CompilationUnitTree> units = task.parse();
            task.analyze();
            for (CompilationUnitTree unit : units) {
                new Calls(Trees.instance(task)).scan(unit, null);
            }
        }
    }

    private final class Calls extends TreePathScanner<Void, Void> {
        private final Trees trees;
        private String caller;

        Calls(Trees trees) {
            this.trees = trees;
        }

        @Override
        public Void visitMethod(MethodTree tree, Void nothing) {
            caller = nameOf(trees.getElement(getCurrentPath()));
            calls.computeIfAbsent(caller, name -> new LinkedHashSet<>());
            return super.visitMethod(tree, nothing);
        }

        @Override
        public Void visitMethodInvocation(MethodInvocationTree tree, Void nothing) {
            Element called = trees.getElement(getCurrentPath());
            if (caller != null && called != null && called.getKind() == ElementKind.METHOD) {
                calls.get(caller).add(nameOf(called));
            }
            return super.visitMethodInvocation(tree, nothing);
        }

        private String nameOf(Element method) {
            return method.getEnclosingElement().getSimpleName() + "." + method.getSimpleName();
        }
    }

    /** Those of the library are no part of the program, and count nothing. */
    private int depthOf(String method) {
        int deepest = 0;
        open.push(method);
        for (String called : calls.get(method)) {
            if (open.contains(called)) {
                noteRecursion(called);
            } else if (calls.containsKey(called)) {
                deepest = Math.max(deepest, depthOf(called));
            }
        }
        open.pop();
        return deepest + 1;
    }

    private void noteRecursion(String called) {
        for (String method : open) {
            recursive.add(method);
            if (method.equals(called)) {
                return;
            }
        }
    }
}
