import com.sun.source.tree.AssignmentTree;
import com.sun.source.tree.BinaryTree;
import com.sun.source.tree.BlockTree;
import com.sun.source.tree.ClassTree;
import com.sun.source.tree.CompoundAssignmentTree;
import com.sun.source.tree.DoWhileLoopTree;
import com.sun.source.tree.ExpressionTree;
import com.sun.source.tree.ForLoopTree;
import com.sun.source.tree.LiteralTree;
import com.sun.source.tree.MethodInvocationTree;
import com.sun.source.tree.MethodTree;
import com.sun.source.tree.NewArrayTree;
import com.sun.source.tree.NewClassTree;
import com.sun.source.tree.ThrowTree;
import com.sun.source.tree.Tree;
import com.sun.source.tree.TypeCastTree;
import com.sun.source.tree.VariableTree;
import com.sun.source.tree.WhileLoopTree;
import com.sun.source.util.TreePath;
import com.sun.source.util.TreePathScanner;
import java.util.EnumSet;
import java.util.Map;
import java.util.Set;
import java.util.TreeMap;
import java.util.TreeSet;
import javax.lang.model.element.Element;
import javax.lang.model.element.ElementKind;
import javax.lang.model.element.ExecutableElement;
import javax.lang.model.element.Modifier;
import javax.lang.model.type.ArrayType;
import javax.lang.model.type.TypeKind;
import javax.lang.model.type.TypeMirror;

/** What the rules of LANGUAGE.md leave, as far as the compiler's tree shows it; the class uses less than they do. */
final class LanguageTests extends TreePathScanner<Void, Void> {
    private static final Set<Tree.Kind> RULED_OUT = EnumSet.of(Tree.Kind.LAMBDA_EXPRESSION, Tree.Kind.MEMBER_REFERENCE,
        Tree.Kind.TRY, Tree.Kind.CATCH, Tree.Kind.SYNCHRONIZED, Tree.Kind.ASSERT, Tree.Kind.SWITCH_EXPRESSION,
        Tree.Kind.ANNOTATION, Tree.Kind.PACKAGE, Tree.Kind.ENHANCED_FOR_LOOP);
    private static final Set<String> LIBRARY = Set.of("Math.max", "Math.min", "Integer.bitCount", "Long.bitCount",
        "Arrays.fill", "System.arraycopy");
    private static final Set<String> EXCEPTIONS = Set.of("IllegalStateException", "IllegalArgumentException",
        "IndexOutOfBoundsException", "UnsupportedOperationException", "NoSuchElementException");
    private static final int MOST_CLASSES = 12;
    private static final int MOST_FIELDS = 20;
    private static final int MOST_PARAMETERS = 7;
    private static final int MOST_LINES = 60;

    private final Checks checks;
    private final Source source;
    private final Map<String, Set<String>> calls = new TreeMap<>();
    private final Map<String, Set<String>> thrown = new TreeMap<>();
    private final Map<String, Set<String>> declared = new TreeMap<>();
    private String method = "";
    private boolean isConstructor;
    private int classes;

    private LanguageTests(Checks checks, Source source) {
        this.checks = checks;
        this.source = source;
    }

    static void check(Checks checks, Source source) {
        LanguageTests all = new LanguageTests(checks, source);
        all.scan(source.unit, null);
        checks.isTrue("rule 11: " + all.classes + " classes", all.classes > 1 && all.classes <= MOST_CLASSES);
        all.declared.forEach((name, due) -> {
            Set<String> reached = new TreeSet<>();
            all.reach(name, reached, new TreeSet<>());
            checks.same("rule 6: what " + name + " throws", due.toString(), reached.toString());
        });
        checks.same("methods of the face", "50", String.valueOf(all.declared.size()));
    }

    /** A rule must hold where the tree that is gone through now stands. */
    private void rule(int number, String what, boolean holds) {
        long line = source.lineAt(source.trees.getSourcePositions().getStartPosition(source.unit,
            getCurrentPath().getLeaf()));
        checks.isTrue("rule " + number + ", line " + line + ": " + what, holds);
    }

    private void reach(String name, Set<String> reached, Set<String> seen) {
        if (seen.add(name)) {
            reached.addAll(thrown.getOrDefault(name, Set.of()));
            calls.getOrDefault(name, Set.of()).forEach(called -> reach(called, reached, seen));
        }
    }

    @Override
    public Void scan(Tree tree, Void nothing) {
        if (tree != null) {
            checks.isTrue("ruled out: " + tree.getKind() + " in " + method, !RULED_OUT.contains(tree.getKind()));
        }
        return super.scan(tree, nothing);
    }

    @Override
    public Void visitClass(ClassTree tree, Void nothing) {
        classes++;
        Set<Modifier> modifiers = tree.getModifiers().getFlags();
        boolean isFace = tree.getSimpleName().contentEquals("Suffixhall");
        rule(1, "public is the face alone", modifiers.contains(Modifier.PUBLIC) == isFace);
        rule(2, "a class inside is static", isFace || modifiers.contains(Modifier.STATIC));
        rule(2, "it stands in the face", isFace || getCurrentPath().getParentPath().getLeaf().getKind()
            == Tree.Kind.CLASS);
        rule(6, "no exception class of its own, and nothing of the library's", tree.getExtendsClause() == null
            && tree.getImplementsClause().isEmpty());
        int fields = 0;
        for (Tree member : tree.getMembers()) {
            rule(5, "no initialiser block", !(member instanceof BlockTree));
            if (member instanceof VariableTree && !((VariableTree) member).getModifiers().getFlags()
                .contains(Modifier.STATIC)) {
                fields++;
            }
        }
        rule(11, "some twenty fields", fields <= MOST_FIELDS);
        return super.visitClass(tree, nothing);
    }

    @Override
    public Void visitMethod(MethodTree tree, Void nothing) {
        ExecutableElement element = (ExecutableElement) source.trees.getElement(getCurrentPath());
        method = Source.nameOf(element);
        isConstructor = element.getKind() == ElementKind.CONSTRUCTOR;
        calls.putIfAbsent(method, new TreeSet<>());
        thrown.putIfAbsent(method, new TreeSet<>());
        if (element.getModifiers().contains(Modifier.PUBLIC) && !isConstructor) {
            Set<String> due = new TreeSet<>();
            element.getThrownTypes().forEach(type -> due.add(nameOf(type)));
            declared.put(method, due);
        }
        rule(11, method + " has seven parameters at most", tree.getParameters().size() <= MOST_PARAMETERS);
        long begin = source.trees.getSourcePositions().getStartPosition(source.unit, tree);
        long end = source.trees.getSourcePositions().getEndPosition(source.unit, tree);
        rule(11, method + " has sixty lines at most", end < 0
            || source.lineAt(end) - source.lineAt(begin) < MOST_LINES);
        rule(3, method + " answers what it may", isAllowed(element.getReturnType()));
        return super.visitMethod(tree, nothing);
    }

    @Override
    public Void visitVariable(VariableTree tree, Void nothing) {
        Element element = source.trees.getElement(getCurrentPath());
        rule(3, tree.getName() + " is of a type that may be", isAllowed(element.asType()));
        if (element.getModifiers().contains(Modifier.STATIC)) {
            rule(5, tree.getName() + " is a constant", element.getModifiers().contains(Modifier.FINAL)
                && ((javax.lang.model.element.VariableElement) element).getConstantValue() != null);
        }
        return super.visitVariable(tree, nothing);
    }

    @Override
    public Void visitMethodInvocation(MethodInvocationTree tree, Void nothing) {
        Element called = source.trees.getElement(getCurrentPath());
        String name = Source.nameOf(called);
        if (isOwn(called.getEnclosingElement())) {
            calls.computeIfAbsent(method, key -> new TreeSet<>()).add(name);
        } else if (called.getKind() != ElementKind.CONSTRUCTOR) {
            rule(4, name + " is of what the library leaves", LIBRARY.contains(name));
        }
        rule(3, name + " answers what it may", isAllowed(typeOf(tree)));
        return super.visitMethodInvocation(tree, nothing);
    }

    @Override
    public Void visitNewClass(NewClassTree tree, Void nothing) {
        String made = nameOf(typeOf(tree));
        boolean isThrown = getCurrentPath().getParentPath().getLeaf() instanceof ThrowTree;
        if (isThrown) {
            rule(6, made + " may be thrown", EXCEPTIONS.contains(made));
            rule(6, "its text is written", tree.getArguments().size() == 1
                && tree.getArguments().get(0).getKind() == Tree.Kind.STRING_LITERAL);
        } else {
            // Less than rule 12 leaves: nothing is made but with the object itself.
            rule(12, made + " is made with the object", isMadeWithTheObject());
            rule(4, made + " is a class of its own", isOwn(source.trees.getElement(
                new TreePath(getCurrentPath(), tree.getIdentifier()))));
        }
        rule(2, "no anonymous class", tree.getClassBody() == null);
        return super.visitNewClass(tree, nothing);
    }

    @Override
    public Void visitNewArray(NewArrayTree tree, Void nothing) {
        rule(12, "an array is made with the object", isMadeWithTheObject());
        rule(3, "its type may be", isAllowed(typeOf(tree)));
        for (ExpressionTree size : tree.getDimensions()) {
            boolean isConstant = size.toString().matches("(MOST|KINDS)_\\w+( \\+ 1)?");
            rule(7, "its length is a constant, not " + size, isConstant);
        }
        return super.visitNewArray(tree, nothing);
    }

    private boolean isMadeWithTheObject() {
        TreePath path = getCurrentPath();
        while (!(path.getLeaf() instanceof ClassTree)) {
            if (path.getLeaf() instanceof MethodTree) {
                return isConstructor;
            }
            path = path.getParentPath();
        }
        return true;
    }

    @Override
    public Void visitThrow(ThrowTree tree, Void nothing) {
        rule(6, "no throw in a constructor", !isConstructor);
        rule(6, "it throws something new", tree.getExpression() instanceof NewClassTree);
        thrown.computeIfAbsent(method, key -> new TreeSet<>()).add(nameOf(typeOf(tree.getExpression())));
        return super.visitThrow(tree, nothing);
    }

    @Override
    public Void visitBinary(BinaryTree tree, Void nothing) {
        rule(10, "no text is joined by +", !nameOf(typeOf(tree)).equals("String"));
        boolean isDivision = tree.getKind() == Tree.Kind.DIVIDE || tree.getKind() == Tree.Kind.REMAINDER;
        boolean isWhole = typeOf(tree).getKind() == TypeKind.INT || typeOf(tree).getKind() == TypeKind.LONG;
        if (isDivision && isWhole) {
            rule(7, "a divisor is a constant", tree.getRightOperand().toString().matches("2|MOST_LETTERS"));
        }
        if (tree.getKind() == Tree.Kind.EQUAL_TO || tree.getKind() == Tree.Kind.NOT_EQUAL_TO) {
            rule(6, "no two texts by ==", !isText(tree.getLeftOperand()) && !isText(tree.getRightOperand()));
        }
        return super.visitBinary(tree, nothing);
    }

    private boolean isText(ExpressionTree tree) {
        return Set.of("String", "Integer").contains(nameOf(typeOf(tree)));
    }

    @Override
    public Void visitCompoundAssignment(CompoundAssignmentTree tree, Void nothing) {
        rule(10, "no text is joined by +=", !isText(tree.getVariable()));
        rule(7, "nothing is divided by itself", !tree.getKind().toString().matches("(DIVIDE|REMAINDER).*"));
        return super.visitCompoundAssignment(tree, nothing);
    }

    @Override
    public Void visitAssignment(AssignmentTree tree, Void nothing) {
        rule(3, "what is assigned may be", isAllowed(typeOf(tree)));
        return super.visitAssignment(tree, nothing);
    }

    @Override
    public Void visitLiteral(LiteralTree tree, Void nothing) {
        if (tree.getValue() instanceof String || tree.getValue() instanceof Character) {
            rule(4, "its signs are 1 to 127", tree.getValue().toString().chars().allMatch(c -> c > 0 && c < 128));
        }
        return super.visitLiteral(tree, nothing);
    }

    @Override
    public Void visitTypeCast(TypeCastTree tree, Void nothing) {
        rule(6, "a cast is one of numbers", typeOf(tree).getKind().isPrimitive()
            && typeOf(tree.getExpression()).getKind().isPrimitive());
        return super.visitTypeCast(tree, nothing);
    }

    @Override
    public Void visitForLoop(ForLoopTree tree, Void nothing) {
        rule(9, "for has an end", tree.getCondition() != null && tree.getUpdate().size() == 1);
        return super.visitForLoop(tree, nothing);
    }

    @Override
    public Void visitWhileLoop(WhileLoopTree tree, Void nothing) {
        rule(9, "while compares a counter", tree.getCondition().toString().matches("\\((first|last|same|items|total) [<>].*"));
        return super.visitWhileLoop(tree, nothing);
    }

    @Override
    public Void visitDoWhileLoop(DoWhileLoopTree tree, Void nothing) {
        rule(9, "no do without a counter", false);
        return super.visitDoWhileLoop(tree, nothing);
    }

    private TypeMirror typeOf(Tree tree) {
        return source.trees.getTypeMirror(TreePath.getPath(source.unit, tree));
    }

    private static String nameOf(TypeMirror type) {
        String name = String.valueOf(type);
        return name.substring(name.lastIndexOf('.') + 1);
    }

    private boolean isOwn(Element element) {
        return String.valueOf(element).matches("Suffixhall(\\..*)?");
    }

    private static boolean isAllowed(TypeMirror type) {
        if (type.getKind() == TypeKind.ARRAY) {
            TypeMirror part = ((ArrayType) type).getComponentType();
            boolean isTable = part.getKind() == TypeKind.ARRAY
                && ((ArrayType) part).getComponentType().getKind().isPrimitive();
            return isTable || part.getKind().isPrimitive() || isOwnName(part);
        }
        return type.getKind().isPrimitive() || type.getKind() == TypeKind.VOID || isOwnName(type);
    }

    private static boolean isOwnName(TypeMirror type) {
        return type.toString().startsWith("Suffixhall.");
    }
}
