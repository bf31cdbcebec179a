import com.sun.source.tree.ArrayTypeTree;
import com.sun.source.tree.AssignmentTree;
import com.sun.source.tree.BinaryTree;
import com.sun.source.tree.ClassTree;
import com.sun.source.tree.CompilationUnitTree;
import com.sun.source.tree.DoWhileLoopTree;
import com.sun.source.tree.ExpressionTree;
import com.sun.source.tree.ForLoopTree;
import com.sun.source.tree.IdentifierTree;
import com.sun.source.tree.LiteralTree;
import com.sun.source.tree.MethodInvocationTree;
import com.sun.source.tree.MethodTree;
import com.sun.source.tree.NewArrayTree;
import com.sun.source.tree.PrimitiveTypeTree;
import com.sun.source.tree.Tree;
import com.sun.source.tree.TypeCastTree;
import com.sun.source.tree.VariableTree;
import com.sun.source.tree.WhileLoopTree;
import com.sun.source.util.JavacTask;
import com.sun.source.util.SourcePositions;
import com.sun.source.util.TreePath;
import com.sun.source.util.TreePathScanner;
import com.sun.source.util.Trees;
import java.io.IOException;
import java.nio.file.Path;
import java.util.ArrayList;
import java.util.List;
import java.util.Map;
import java.util.Set;
import java.util.TreeMap;
import java.util.TreeSet;
import javax.lang.model.element.Modifier;
import javax.lang.model.type.TypeKind;
import javax.tools.JavaCompiler;
import javax.tools.StandardJavaFileManager;
import javax.tools.ToolProvider;

/** What of LANGUAGE.md can be seen in the source text; LanguageTest has what the compiled class shows. */
public final class LanguageSourceTest extends TreePathScanner<Void, Void> {
    private static final Path SOURCE = Path.of("src/main/java/InductionProver.java");
    private static final Set<TypeKind> NUMBERS = Set.of(TypeKind.INT, TypeKind.LONG, TypeKind.SHORT, TypeKind.BYTE, TypeKind.CHAR,
        TypeKind.BOOLEAN);
    // Kinds of tree that no rule leaves a place for.
    private static final Set<Tree.Kind> REFUSED = Set.of(Tree.Kind.PACKAGE, Tree.Kind.IMPORT, Tree.Kind.INTERFACE, Tree.Kind.ENUM,
        Tree.Kind.RECORD, Tree.Kind.ANNOTATION_TYPE, Tree.Kind.NEW_CLASS, Tree.Kind.STRING_LITERAL, Tree.Kind.FLOAT_LITERAL,
        Tree.Kind.DOUBLE_LITERAL, Tree.Kind.NULL_LITERAL, Tree.Kind.THROW, Tree.Kind.TRY, Tree.Kind.CATCH, Tree.Kind.SYNCHRONIZED,
        Tree.Kind.ASSERT, Tree.Kind.INSTANCE_OF, Tree.Kind.LAMBDA_EXPRESSION, Tree.Kind.MEMBER_REFERENCE, Tree.Kind.ENHANCED_FOR_LOOP,
        Tree.Kind.PARAMETERIZED_TYPE, Tree.Kind.MEMBER_SELECT, Tree.Kind.ANNOTATION, Tree.Kind.TYPE_PARAMETER);

    private final Checks checks = new Checks();
    private final Map<String, Set<String>> calls = new TreeMap<>();
    private final Set<String> arrays = new TreeSet<>();
    private final Set<String> constants = new TreeSet<>();
    private CompilationUnitTree unit;
    private SourcePositions positions;
    private int classes = 0;

    public static void main(String[] args) throws IOException {
        LanguageSourceTest test = new LanguageSourceTest();
        test.read();
        test.checks.due("rule 1: classes in the file", test.classes, 1);
        test.callsEnd();
        test.checks.end();
    }

    private void read() throws IOException {
        JavaCompiler compiler = ToolProvider.getSystemJavaCompiler();
        try (StandardJavaFileManager files = compiler.getStandardFileManager(null, null, null)) {
            JavacTask task = (JavacTask) compiler.getTask(null, files, null, List.of("--release", "17"), null,
                files.getJavaFileObjects(SOURCE));
            unit = task.parse().iterator().next();
            positions = Trees.instance(task).getSourcePositions();
            scan(unit, null);
        }
    }

    private void hold(String rule, Tree at, boolean holds) {
        String found = at.toString().strip();
        String line = found.lines().findFirst().orElse("");
        checks.due("line " + lineOf(positions.getStartPosition(unit, at)) + ", " + rule + ": " + line, holds, true);
    }

    private long lineOf(long position) {
        return unit.getLineMap().getLineNumber(position);
    }

    private String enclosingMethod() {
        for (TreePath path = getCurrentPath(); path != null; path = path.getParentPath()) {
            if (path.getLeaf() instanceof MethodTree method) {
                return method.getName().toString();
            }
        }
        return "";
    }

    private Tree parent() {
        return getCurrentPath().getParentPath().getLeaf();
    }

    @Override
    public Void scan(Tree tree, Void none) {
        if (tree != null) {
            hold("rules 1 to 6, no " + tree.getKind(), tree, !REFUSED.contains(tree.getKind()));
        }
        return super.scan(tree, none);
    }

    @Override
    public Void visitClass(ClassTree tree, Void none) {
        classes++;
        for (Tree member : tree.getMembers()) {
            hold("rule 5, no initialiser block", member, member.getKind() != Tree.Kind.BLOCK);
            if (member instanceof VariableTree field) {
                noteField(field);
            }
        }
        return super.visitClass(tree, none);
    }

    private void noteField(VariableTree field) {
        String name = field.getName().toString();
        if (field.getType() instanceof ArrayTypeTree) {
            arrays.add(name);
            hold("rule 4, an array is made in its field's initialiser", field, field.getInitializer() instanceof NewArrayTree);
        }
        if (field.getModifiers().getFlags().contains(Modifier.STATIC)) {
            constants.add(name);
            hold("rule 5, a static field is a number with a value", field, field.getType() instanceof PrimitiveTypeTree
                && field.getInitializer() != null);
        }
    }

    @Override
    public Void visitVariable(VariableTree tree, Void none) {
        Tree type = tree.getType();
        Tree element = type instanceof ArrayTypeTree array ? array.getType() : type;
        hold("rule 2", tree, element instanceof PrimitiveTypeTree plain && NUMBERS.contains(plain.getPrimitiveTypeKind()));
        return super.visitVariable(tree, none);
    }

    @Override
    public Void visitNewArray(NewArrayTree tree, Void none) {
        hold("rule 4, no array is made in a method", tree, enclosingMethod().isEmpty() && parent() instanceof VariableTree);
        hold("rule 4, an array has one length", tree, tree.getInitializers() == null && tree.getDimensions().size() == 1);
        ExpressionTree size = tree.getDimensions().get(0);
        hold("rule 4, the length is a constant", tree, size instanceof IdentifierTree name && constants.contains(name.toString())
            || size instanceof LiteralTree);
        return super.visitNewArray(tree, none);
    }

    @Override
    public Void visitAssignment(AssignmentTree tree, Void none) {
        hold("rule 4, no array field is assigned", tree, !arrays.contains(tree.getVariable().toString()));
        return super.visitAssignment(tree, none);
    }

    @Override
    public Void visitBinary(BinaryTree tree, Void none) {
        boolean array = arrays.contains(tree.getLeftOperand().toString()) || arrays.contains(tree.getRightOperand().toString());
        hold("rule 4, no array is compared", tree, !array);
        boolean divides = tree.getKind() == Tree.Kind.DIVIDE || tree.getKind() == Tree.Kind.REMAINDER;
        hold("rule 7, nothing is divided by what may be zero", tree, !divides || tree.getRightOperand() instanceof LiteralTree);
        return super.visitBinary(tree, none);
    }

    @Override
    public Void visitTypeCast(TypeCastTree tree, Void none) {
        hold("rule 6, a cast is between numbers", tree, tree.getType() instanceof PrimitiveTypeTree);
        return super.visitTypeCast(tree, none);
    }

    @Override
    public Void visitForLoop(ForLoopTree tree, Void none) {
        hold("rule 8, a loop has a bound and a counter", tree, tree.getCondition() != null && tree.getUpdate().size() == 1);
        return super.visitForLoop(tree, none);
    }

    /** The class has one such loop; another one is to be read by a person before it is let in here. */
    @Override
    public Void visitWhileLoop(WhileLoopTree tree, Void none) {
        hold("rule 8, a counter against a bound", tree, tree.getCondition().toString().startsWith("(equalSign < length[BUFFER] && "));
        return super.visitWhileLoop(tree, none);
    }

    @Override
    public Void visitDoWhileLoop(DoWhileLoopTree tree, Void none) {
        hold("rule 8, a counter against a bound", tree, false);
        return super.visitDoWhileLoop(tree, none);
    }

    @Override
    public Void visitMethod(MethodTree tree, Void none) {
        long first = lineOf(positions.getStartPosition(unit, tree));
        long last = lineOf(positions.getEndPosition(unit, tree));
        hold("rule 10, at most sixty lines", tree, last - first < 60);
        hold("rule 10, at most seven parameters", tree, tree.getParameters().size() <= 7);
        hold("rule 4, no method answers an array", tree, !(tree.getReturnType() instanceof ArrayTypeTree));
        // Two methods of one name would be one node in the graph of calls.
        hold("every method has a name of its own", tree, calls.put(tree.getName().toString(), new TreeSet<>()) == null);
        return super.visitMethod(tree, none);
    }

    @Override
    public Void visitMethodInvocation(MethodInvocationTree tree, Void none) {
        hold("rule 3, only the class's own methods are called", tree, tree.getMethodSelect() instanceof IdentifierTree);
        String called = tree.getMethodSelect().toString();
        hold("rule 5, no call outside a method", tree, !enclosingMethod().isEmpty());
        // The compiler puts super() into the syntax of a constructor that does not have it.
        if (!called.equals("super")) {
            calls.computeIfAbsent(enclosingMethod(), name -> new TreeSet<>()).add(called);
        }
        for (ExpressionTree argument : tree.getArguments()) {
            hold("rule 10, no call inside the arguments of a call", tree, !hasCall(argument));
        }
        return super.visitMethodInvocation(tree, none);
    }

    private boolean hasCall(ExpressionTree argument) {
        List<Tree> found = new ArrayList<>();
        new TreePathScanner<Void, Void>() {
            @Override
            public Void visitMethodInvocation(MethodInvocationTree tree, Void none) {
                found.add(tree);
                return null;
            }
        }.scan(new TreePath(getCurrentPath(), argument), null);
        return !found.isEmpty();
    }

    private void callsEnd() {
        int deepest = 0;
        for (String method : calls.keySet()) {
            deepest = Math.max(deepest, depth(method, new ArrayList<>()));
        }
        checks.due("rule 10: calls go at most six deep, and these go " + deepest, deepest <= 6, true);
    }

    /** Counts the method itself; the way to it tells a recursion. */
    private int depth(String method, List<String> way) {
        boolean recursion = way.contains(method);
        checks.due("rule 8, no recursion: " + way + " " + method, recursion, false);
        if (recursion) {
            return 0;
        }
        checks.due("a method of the class: " + method, calls.containsKey(method), true);
        List<String> longer = new ArrayList<>(way);
        longer.add(method);
        int deepest = 0;
        for (String called : calls.getOrDefault(method, Set.of())) {
            deepest = Math.max(deepest, depth(called, longer));
        }
        return deepest + 1;
    }
}
