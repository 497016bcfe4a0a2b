import com.sun.source.tree.AssertTree;
import com.sun.source.tree.BinaryTree;
import com.sun.source.tree.ClassTree;
import com.sun.source.tree.CompilationUnitTree;
import com.sun.source.tree.CompoundAssignmentTree;
import com.sun.source.tree.DoWhileLoopTree;
import com.sun.source.tree.EnhancedForLoopTree;
import com.sun.source.tree.ExpressionTree;
import com.sun.source.tree.ForLoopTree;
import com.sun.source.tree.InstanceOfTree;
import com.sun.source.tree.LambdaExpressionTree;
import com.sun.source.tree.LineMap;
import com.sun.source.tree.LiteralTree;
import com.sun.source.tree.MemberReferenceTree;
import com.sun.source.tree.MethodInvocationTree;
import com.sun.source.tree.MethodTree;
import com.sun.source.tree.NewArrayTree;
import com.sun.source.tree.NewClassTree;
import com.sun.source.tree.ParenthesizedTree;
import com.sun.source.tree.SynchronizedTree;
import com.sun.source.tree.ThrowTree;
import com.sun.source.tree.Tree;
import com.sun.source.tree.TryTree;
import com.sun.source.tree.TypeCastTree;
import com.sun.source.tree.VariableTree;
import com.sun.source.tree.WhileLoopTree;
import com.sun.source.util.JavacTask;
import com.sun.source.util.SourcePositions;
import com.sun.source.util.TreePathScanner;
import com.sun.source.util.Trees;
import java.io.IOException;
import java.nio.file.Path;
import java.util.ArrayList;
import java.util.HashMap;
import java.util.List;
import java.util.Map;
import java.util.Set;
import java.util.TreeMap;
import java.util.TreeSet;
import javax.lang.model.element.Element;
import javax.lang.model.element.ElementKind;
import javax.lang.model.element.Modifier;
import javax.lang.model.type.ArrayType;
import javax.lang.model.type.TypeKind;
import javax.lang.model.type.TypeMirror;
import javax.tools.JavaCompiler;
import javax.tools.StandardJavaFileManager;
import javax.tools.ToolProvider;

/** What of LANGUAGE.md can be seen in the trees that the compiler makes of the source. */
public final class CodeTreeTest extends TreePathScanner<Void, Void> {
    private static final Due DUE = new Due();
    private static final String SOURCE = "src/main/java/OrderGauge.java";
    private static final int MOST_DEEP = 8;
    private static final int MOST_LINES = 60;

    // Rule 4, as far as the class needs it; more of what stands there may be added.
    private static final Set<String> LIBRARY = Set.of(
            "java.lang.String.length()", "java.lang.String.charAt(int)",
            "java.lang.Integer.bitCount(int)",
            "java.lang.Math.min(int,int)", "java.lang.Math.max(int,int)", "java.lang.Math.abs(int)",
            "java.lang.System.arraycopy(java.lang.Object,int,java.lang.Object,int,int)");

    private final Trees trees;
    private final SourcePositions positions;
    private final CompilationUnitTree unit;
    private final LineMap lineMap;
    private final Map<String, Set<String>> calls = new TreeMap<>();
    private final Map<String, Set<Modifier>> modifiers = new HashMap<>();
    private String method;
    private boolean making;

    private CodeTreeTest(Trees trees, CompilationUnitTree unit) {
        this.trees = trees;
        this.unit = unit;
        positions = trees.getSourcePositions();
        lineMap = unit.getLineMap();
    }

    public static void main(String[] args) throws IOException {
        JavaCompiler compiler = ToolProvider.getSystemJavaCompiler();
        try (StandardJavaFileManager files = compiler.getStandardFileManager(null, null, null)) {
            JavacTask task = (JavacTask) compiler.getTask(null, files, null, List.of("-proc:none"), null,
                    files.getJavaFileObjects(Path.of(SOURCE)));
            CompilationUnitTree unit = task.parse().iterator().next();
            task.analyze();
            CodeTreeTest test = new CodeTreeTest(Trees.instance(task), unit);
            test.scan(unit, null);
            test.depths();
        }
        DUE.close("CodeTreeTest");
    }

    private void holds(String rule, Tree at, boolean is) {
        DUE.holds("rule " + rule + ", line " + lineMap.getLineNumber(positions.getStartPosition(unit, at)), is);
    }

    private static String named(Element one) {
        return one.getEnclosingElement() + "." + one;
    }

    private static boolean isOwn(Element one) {
        return one.getEnclosingElement().toString().startsWith("OrderGauge");
    }

    // Rule 3
    private static boolean isAllowed(TypeMirror type) {
        if (type.getKind() == TypeKind.ARRAY) {
            TypeMirror part = ((ArrayType) type).getComponentType();
            return part.getKind() != TypeKind.ARRAY && !part.toString().equals("java.lang.String") && isAllowed(part);
        }
        String name = type.toString();
        return Set.of("int", "long", "char", "byte", "boolean", "void", "java.lang.String").contains(name)
                || name.startsWith("OrderGauge");
    }

    @Override
    public Void visitClass(ClassTree one, Void none) {
        Element element = trees.getElement(getCurrentPath());
        holds("2: a class inside is static, and a member", one,
                element.getEnclosingElement().getKind() == ElementKind.PACKAGE
                        || element.getModifiers().contains(Modifier.STATIC) && method == null);
        return super.visitClass(one, none);
    }

    @Override
    public Void visitMethod(MethodTree one, Void none) {
        Element element = trees.getElement(getCurrentPath());
        method = named(element);
        making = element.getKind() == ElementKind.CONSTRUCTOR;
        calls.put(method, new TreeSet<>());
        modifiers.put(method, element.getModifiers());
        long first = lineMap.getLineNumber(positions.getStartPosition(unit, one));
        long last = lineMap.getLineNumber(positions.getEndPosition(unit, one));
        DUE.holds("rule 11: short: " + method, last - first < MOST_LINES);
        DUE.holds("rule 11: at most seven parameters: " + method, one.getParameters().size() <= 7);
        if (!making) {
            holds("3: type of " + method, one, isAllowed(trees.getTypeMirror(pathOf(one.getReturnType()))));
        }
        super.visitMethod(one, none);
        method = null;
        making = false;
        return null;
    }

    private com.sun.source.util.TreePath pathOf(Tree part) {
        return new com.sun.source.util.TreePath(getCurrentPath(), part);
    }

    @Override
    public Void visitVariable(VariableTree one, Void none) {
        Element element = trees.getElement(getCurrentPath());
        holds("3: type of " + one.getName(), one, isAllowed(element.asType()));
        if (element.getKind() == ElementKind.FIELD && element.getModifiers().contains(Modifier.STATIC)) {
            holds("5: a static field is a final constant", one, element.getModifiers().contains(Modifier.FINAL)
                    && element.asType().getKind().isPrimitive() && one.getInitializer() != null);
        }
        return super.visitVariable(one, none);
    }

    @Override
    public Void visitMethodInvocation(MethodInvocationTree one, Void none) {
        Element called = trees.getElement(getCurrentPath());
        String name = named(called);
        if (isOwn(called)) {
            DUE.holds("calls stand in methods: " + name, method != null);
            calls.get(method).add(name);
        } else if (!one.toString().equals("super()")) {
            holds("4: of the library: " + name, one, LIBRARY.contains(name));
        }
        return super.visitMethodInvocation(one, none);
    }

    // Rule 12 asks for few objects; here calls make none at all.
    @Override
    public Void visitNewClass(NewClassTree one, Void none) {
        holds("2: no anonymous class", one, one.getClassBody() == null);
        holds("12: made in constructors alone", one, method == null || making);
        if (method != null) {
            calls.get(method).add(named(trees.getElement(getCurrentPath())));
        }
        return super.visitNewClass(one, none);
    }

    @Override
    public Void visitNewArray(NewArrayTree one, Void none) {
        holds("12: made in constructors alone", one, method == null || making);
        return super.visitNewArray(one, none);
    }

    private boolean isText(ExpressionTree part) {
        return trees.getTypeMirror(pathOf(part)).toString().equals("java.lang.String");
    }

    @Override
    public Void visitBinary(BinaryTree one, Void none) {
        boolean texts = isText(one.getLeftOperand()) || isText(one.getRightOperand());
        holds("6, 10: no + == != with texts", one, !texts);
        if (one.getKind() == Tree.Kind.DIVIDE || one.getKind() == Tree.Kind.REMAINDER) {
            boolean written = one.getRightOperand() instanceof LiteralTree;
            holds("7: a divisor written out, or one of the two that are looked at", one,
                    written || Set.of("low", "divisor").contains(one.getRightOperand().toString()));
        }
        return super.visitBinary(one, none);
    }

    @Override
    public Void visitCompoundAssignment(CompoundAssignmentTree one, Void none) {
        holds("10: no += with texts", one, !isText(one.getVariable()));
        holds("7: no divisor in an assignment", one, one.getKind() != Tree.Kind.DIVIDE_ASSIGNMENT
                && one.getKind() != Tree.Kind.REMAINDER_ASSIGNMENT);
        return super.visitCompoundAssignment(one, none);
    }

    // Rule 9: what a loop goes on by is compared with a bound in its own condition.
    private void hasBound(Tree loop, ExpressionTree condition) {
        ExpressionTree inner = condition;
        while (inner instanceof ParenthesizedTree) {
            inner = ((ParenthesizedTree) inner).getExpression();
        }
        holds("9: a bound in the loop's condition", loop, inner != null && comparesNumbers(inner));
    }

    private static boolean comparesNumbers(ExpressionTree condition) {
        if (!(condition instanceof BinaryTree)) {
            return false;
        }
        BinaryTree two = (BinaryTree) condition;
        switch (two.getKind()) {
            case LESS_THAN: case LESS_THAN_EQUAL: case GREATER_THAN: case GREATER_THAN_EQUAL:
                return true;
            case CONDITIONAL_AND:
                return comparesNumbers(two.getLeftOperand()) || comparesNumbers(two.getRightOperand());
            default:
                return false;
        }
    }

    @Override
    public Void visitForLoop(ForLoopTree one, Void none) {
        hasBound(one, one.getCondition());
        holds("9: a step in the loop's head", one, !one.getUpdate().isEmpty());
        return super.visitForLoop(one, none);
    }

    @Override
    public Void visitWhileLoop(WhileLoopTree one, Void none) {
        hasBound(one, one.getCondition());
        return super.visitWhileLoop(one, none);
    }

    @Override
    public Void visitDoWhileLoop(DoWhileLoopTree one, Void none) {
        hasBound(one, one.getCondition());
        return super.visitDoWhileLoop(one, none);
    }

    @Override
    public Void visitEnhancedForLoop(EnhancedForLoopTree one, Void none) {
        holds("12: no iterator", one, trees.getTypeMirror(pathOf(one.getExpression())).getKind() == TypeKind.ARRAY);
        return super.visitEnhancedForLoop(one, none);
    }

    private Void banned(String rule, Tree at) {
        holds(rule, at, false);
        return null;
    }

    @Override
    public Void visitLambdaExpression(LambdaExpressionTree one, Void none) {
        return banned("2: no lambda", one);
    }

    @Override
    public Void visitMemberReference(MemberReferenceTree one, Void none) {
        return banned("2: no method reference", one);
    }

    @Override
    public Void visitThrow(ThrowTree one, Void none) {
        return banned("6: no throw", one);
    }

    @Override
    public Void visitTry(TryTree one, Void none) {
        return banned("6: no try", one);
    }

    @Override
    public Void visitSynchronized(SynchronizedTree one, Void none) {
        return banned("6: no synchronized", one);
    }

    @Override
    public Void visitAssert(AssertTree one, Void none) {
        return banned("6: no assert", one);
    }

    @Override
    public Void visitInstanceOf(InstanceOfTree one, Void none) {
        return banned("6: no instanceof is needed", one);
    }

    @Override
    public Void visitTypeCast(TypeCastTree one, Void none) {
        return banned("6: no cast is needed", one);
    }

    // Rules 8 and 11
    private void depths() {
        DUE.holds("methods were seen", calls.size() > 100);
        for (String one : calls.keySet()) {
            List<String> longest = longestFrom(one, new ArrayList<>());
            DUE.holds("rule 11: at most eight deep: " + String.join(" > ", longest), longest.size() <= MOST_DEEP);
        }
    }

    private List<String> longestFrom(String one, List<String> open) {
        List<String> longest = List.of();
        open.add(one);
        for (String next : calls.getOrDefault(one, Set.of())) {
            if (next.equals(one)) {
                DUE.holds("rule 8: what calls itself is private and static: " + one,
                        modifiers.get(one).containsAll(Set.of(Modifier.PRIVATE, Modifier.STATIC)));
            } else if (open.contains(next)) {
                DUE.holds("rule 8: calls that go round: " + open + " " + next, false);
            } else {
                List<String> found = longestFrom(next, open);
                longest = found.size() > longest.size() ? found : longest;
            }
        }
        open.remove(open.size() - 1);
        List<String> whole = new ArrayList<>(List.of(one));
        whole.addAll(longest);
        return whole;
    }
}
