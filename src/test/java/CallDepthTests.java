import com.sun.source.tree.MethodInvocationTree;
import com.sun.source.tree.MethodTree;
import com.sun.source.util.TreePathScanner;
import com.sun.source.util.Trees;
import java.util.ArrayDeque;
import java.util.Deque;
import java.util.LinkedHashSet;
import java.util.Map;
import java.util.Set;
import java.util.TreeMap;
import java.util.TreeSet;
import javax.lang.model.element.Element;
import javax.lang.model.element.ElementKind;

/** Rule 11 of LANGUAGE.md: calls that are no recursion go at most eight deep; and rule 8: what calls itself. */
final class CallDepthTests {
    private static final int DEEPEST = 8;
    private static final String RECURSION =
        "[Regular.readAlternatives, Regular.readItem, Regular.readItems]";

    private final Map<String, Set<String>> calls = new TreeMap<>();
    private final Set<String> recursive = new TreeSet<>();
    private final Deque<String> open = new ArrayDeque<>();

    private CallDepthTests() {
    }

    static void check(Checks checks, Source source) {
        CallDepthTests all = new CallDepthTests();
        all.new Calls(source.trees).scan(source.unit, null);
        for (String method : all.calls.keySet()) {
            if (method.startsWith("Suffixhall.")) {
                int depth = all.depthOf(method);
                checks.isTrue(method + " goes at most eight deep, not " + depth, depth <= DEEPEST);
            }
        }
        checks.same("what calls itself", RECURSION, all.recursive.toString());
    }

    private final class Calls extends TreePathScanner<Void, Void> {
        private final Trees trees;
        private String caller;

        Calls(Trees trees) {
            this.trees = trees;
        }

        @Override
        public Void visitMethod(MethodTree tree, Void nothing) {
            caller = Source.nameOf(trees.getElement(getCurrentPath()));
            calls.computeIfAbsent(caller, name -> new LinkedHashSet<>());
            return super.visitMethod(tree, nothing);
        }

        @Override
        public Void visitMethodInvocation(MethodInvocationTree tree, Void nothing) {
            Element called = trees.getElement(getCurrentPath());
            if (caller != null && called != null && called.getKind() == ElementKind.METHOD) {
                calls.get(caller).add(Source.nameOf(called));
            }
            return super.visitMethodInvocation(tree, nothing);
        }
    }

    /** Those of the library are no part of the program, and count nothing. */
    private int depthOf(String method) {
        int deepest = 0;
        open.push(method);
        for (String called : calls.get(method)) {
            if (open.contains(called)) {
                noteRecursion(called);
            } else if (calls.containsKey(called)) {
                deepest = Math.max(deepest, depthOf(called));
            }
        }
        open.pop();
        return deepest + 1;
    }

    private void noteRecursion(String called) {
        for (String method : open) {
            recursive.add(method);
            if (method.equals(called)) {
                return;
            }
        }
    }
}
