import com.sun.source.tree.ArrayTypeTree;
import com.sun.source.tree.AssignmentTree;
import com.sun.source.tree.BinaryTree;
import com.sun.source.tree.ClassTree;
import com.sun.source.tree.CompilationUnitTree;
import com.sun.source.tree.CompoundAssignmentTree;
import com.sun.source.tree.DoWhileLoopTree;
import com.sun.source.tree.EnhancedForLoopTree;
import com.sun.source.tree.ExpressionTree;
import com.sun.source.tree.ForLoopTree;
import com.sun.source.tree.IdentifierTree;
import com.sun.source.tree.LineMap;
import com.sun.source.tree.LiteralTree;
import com.sun.source.tree.MemberSelectTree;
import com.sun.source.tree.MethodInvocationTree;
import com.sun.source.tree.MethodTree;
import com.sun.source.tree.NewArrayTree;
import com.sun.source.tree.PrimitiveTypeTree;
import com.sun.source.tree.Tree;
import com.sun.source.tree.UnaryTree;
import com.sun.source.tree.VariableTree;
import com.sun.source.tree.WhileLoopTree;
import com.sun.source.util.JavacTask;
import com.sun.source.util.SourcePositions;
import com.sun.source.util.TreeScanner;
import com.sun.source.util.Trees;
import java.io.File;
import java.io.IOException;
import java.util.EnumSet;
import java.util.HashMap;
import java.util.HashSet;
import java.util.Map;
import java.util.Set;
import java.util.TreeSet;
import javax.lang.model.element.Modifier;
import javax.lang.model.type.TypeKind;
import javax.tools.JavaCompiler;
import javax.tools.StandardJavaFileManager;
import javax.tools.ToolProvider;

/** Those rules of LANGUAGE.md that can be read off the source's tree; the argument is its path. */
public final class LanguageTest extends TreeScanner<Void, Void> {
    private static final Checks CHECKS = new Checks();
    private static final int DEEPEST = 6;
    private static final int LONGEST = 60;
    private static final int MOST_FIELDS = 40;
    private static final int MOST_PARAMETERS = 7;

    private static final Set<Tree.Kind> FORBIDDEN = EnumSet.of(Tree.Kind.IMPORT, Tree.Kind.PACKAGE,
            Tree.Kind.INTERFACE, Tree.Kind.ENUM, Tree.Kind.RECORD, Tree.Kind.THROW, Tree.Kind.TRY,
            Tree.Kind.SYNCHRONIZED, Tree.Kind.ASSERT, Tree.Kind.INSTANCE_OF, Tree.Kind.LAMBDA_EXPRESSION,
            Tree.Kind.MEMBER_REFERENCE, Tree.Kind.NEW_CLASS, Tree.Kind.NULL_LITERAL, Tree.Kind.STRING_LITERAL,
            Tree.Kind.FLOAT_LITERAL, Tree.Kind.DOUBLE_LITERAL);
    private static final Set<TypeKind> NUMBERS = EnumSet.of(TypeKind.INT, TypeKind.LONG, TypeKind.SHORT,
            TypeKind.BYTE, TypeKind.CHAR, TypeKind.BOOLEAN, TypeKind.VOID);

    private final CompilationUnitTree unit;
    private final SourcePositions positions;
    private final Map<String, Set<String>> calls = new HashMap<>();
    private final Set<String> arrayFields = new HashSet<>();
    private int classes = 0;
    private int fields = 0;
    private String method = "";

    private LanguageTest(CompilationUnitTree unit, SourcePositions positions) {
        this.unit = unit;
        this.positions = positions;
    }

    public static void main(String[] args) throws IOException {
        JavaCompiler compiler = ToolProvider.getSystemJavaCompiler();
        try (StandardJavaFileManager files = compiler.getStandardFileManager(null, null, null)) {
            JavacTask task = (JavacTask) compiler.getTask(null, files, null, null, null,
                    files.getJavaFileObjects(new File(args[0])));
            CompilationUnitTree unit = task.parse().iterator().next();
            LanguageTest test = new LanguageTest(unit, Trees.instance(task).getSourcePositions());
            test.scan(unit, null);
            test.lookAtCalls();
        }
        CHECKS.end();
    }

    private long line(Tree tree) {
        return unit.getLineMap().getLineNumber(positions.getStartPosition(unit, tree));
    }

    private void rule(int number, Tree tree, boolean kept) {
        CHECKS.holds("rule " + number + " at line " + line(tree) + ": " + tree, kept);
    }

    @Override
    public Void scan(Tree tree, Void unused) {
        if (tree != null) {
            CHECKS.holds("rules 1, 2, 3 and 6 at line " + line(tree) + ": " + tree, !FORBIDDEN.contains(tree.getKind()));
        }
        return super.scan(tree, unused);
    }

    @Override
    public Void visitClass(ClassTree tree, Void unused) {
        classes++;
        rule(1, tree, classes == 1);
        Set<String> names = new HashSet<>();
        for (Tree member : tree.getMembers()) {
            if (member instanceof MethodTree one) {
                rule(1, one, names.add(one.getName().toString()));
            } else if (member instanceof VariableTree one) {
                lookAtField(one);
            } else {
                rule(5, member, false);
            }
        }
        CHECKS.holds("rule 10: fields", fields <= MOST_FIELDS);
        return super.visitClass(tree, unused);
    }

    private void lookAtField(VariableTree tree) {
        Set<Modifier> flags = tree.getModifiers().getFlags();
        boolean isArray = tree.getType().getKind() == Tree.Kind.ARRAY_TYPE;
        if (flags.contains(Modifier.STATIC)) {
            rule(5, tree, flags.contains(Modifier.FINAL) && !isArray && tree.getInitializer() != null);
            return;
        }
        fields++;
        if (isArray) {
            arrayFields.add(tree.getName().toString());
            rule(4, tree, tree.getInitializer() instanceof NewArrayTree);
        }
    }

    @Override
    public Void visitMethod(MethodTree tree, Void unused) {
        method = tree.getName().toString();
        calls.put(method, new TreeSet<>());
        LineMap lines = unit.getLineMap();
        long length = lines.getLineNumber(positions.getEndPosition(unit, tree)) - line(tree) + 1;
        rule(10, tree, length <= LONGEST && tree.getParameters().size() <= MOST_PARAMETERS);
        rule(4, tree, tree.getReturnType() == null || tree.getReturnType().getKind() == Tree.Kind.PRIMITIVE_TYPE);
        super.visitMethod(tree, unused);
        method = "";
        return null;
    }

    @Override
    public Void visitMethodInvocation(MethodInvocationTree tree, Void unused) {
        String called = tree.getMethodSelect().toString();
        if (!called.equals("super")) {
            rule(3, tree, tree.getMethodSelect() instanceof IdentifierTree);
            calls.get(method).add(called);
        }
        for (ExpressionTree argument : tree.getArguments()) {
            new TreeScanner<Void, Void>() {
                @Override
                public Void visitMethodInvocation(MethodInvocationTree inner, Void none) {
                    rule(10, tree, false);
                    return null;
                }
            }.scan(argument, null);
        }
        return super.visitMethodInvocation(tree, unused);
    }

    @Override
    public Void visitNewArray(NewArrayTree tree, Void unused) {
        boolean sized = tree.getInitializers() == null && tree.getDimensions().size() == 1;
        rule(4, tree, method.isEmpty() && sized
                && (tree.getDimensions().get(0) instanceof LiteralTree
                        || tree.getDimensions().get(0) instanceof IdentifierTree));
        return super.visitNewArray(tree, unused);
    }

    @Override
    public Void visitAssignment(AssignmentTree tree, Void unused) {
        rule(4, tree, !arrayFields.contains(tree.getVariable().toString()));
        return super.visitAssignment(tree, unused);
    }

    @Override
    public Void visitVariable(VariableTree tree, Void unused) {
        boolean isType = tree.getType() instanceof PrimitiveTypeTree || tree.getType() instanceof ArrayTypeTree;
        rule(2, tree, isType);
        return super.visitVariable(tree, unused);
    }

    @Override
    public Void visitArrayType(ArrayTypeTree tree, Void unused) {
        rule(2, tree, tree.getType() instanceof PrimitiveTypeTree);
        return super.visitArrayType(tree, unused);
    }

    @Override
    public Void visitPrimitiveType(PrimitiveTypeTree tree, Void unused) {
        rule(2, tree, NUMBERS.contains(tree.getPrimitiveTypeKind()));
        return super.visitPrimitiveType(tree, unused);
    }

    @Override
    public Void visitMemberSelect(MemberSelectTree tree, Void unused) {
        rule(3, tree, tree.getExpression().toString().equals("this"));
        return super.visitMemberSelect(tree, unused);
    }

    // The class counts in every loop by for, so that its end stands in the loop's first line.
    @Override
    public Void visitWhileLoop(WhileLoopTree tree, Void unused) {
        rule(8, tree, false);
        return super.visitWhileLoop(tree, unused);
    }

    @Override
    public Void visitDoWhileLoop(DoWhileLoopTree tree, Void unused) {
        rule(8, tree, false);
        return super.visitDoWhileLoop(tree, unused);
    }

    @Override
    public Void visitEnhancedForLoop(EnhancedForLoopTree tree, Void unused) {
        rule(8, tree, false);
        return super.visitEnhancedForLoop(tree, unused);
    }

    @Override
    public Void visitForLoop(ForLoopTree tree, Void unused) {
        boolean counts = tree.getInitializer().size() == 1 && tree.getInitializer().get(0) instanceof VariableTree
                && tree.getUpdate().size() == 1;
        rule(8, tree, counts);
        if (counts) {
            String counter = ((VariableTree) tree.getInitializer().get(0)).getName().toString();
            rule(8, tree, stepsToBound(tree, counter));
            rule(8, tree, !isSet(counter, tree.getStatement()));
        }
        return super.visitForLoop(tree, unused);
    }

    // The step goes up to a constant above or down to one below, which stands first where there are two conditions.
    private static boolean stepsToBound(ForLoopTree tree, String counter) {
        String step = tree.getUpdate().get(0).getExpression().toString();
        ExpressionTree condition = tree.getCondition();
        while (condition instanceof BinaryTree both && both.getKind() == Tree.Kind.CONDITIONAL_AND) {
            condition = both.getLeftOperand();
        }
        boolean isCompared = condition instanceof BinaryTree compared
                && compared.getLeftOperand().toString().equals(counter)
                && compared.getRightOperand().toString().matches("[A-Z0-9_ *]+");
        boolean up = condition.getKind() == Tree.Kind.LESS_THAN || condition.getKind() == Tree.Kind.LESS_THAN_EQUAL;
        boolean down = condition.getKind() == Tree.Kind.GREATER_THAN;
        return isCompared && (up && step.equals(counter + "++") || down && step.equals(counter + "--"));
    }

    private static boolean isSet(String name, Tree body) {
        boolean[] found = {false};
        new TreeScanner<Void, Void>() {
            @Override
            public Void visitAssignment(AssignmentTree tree, Void unused) {
                found[0] |= tree.getVariable().toString().equals(name);
                return super.visitAssignment(tree, unused);
            }

            @Override
            public Void visitCompoundAssignment(CompoundAssignmentTree tree, Void unused) {
                found[0] |= tree.getVariable().toString().equals(name);
                return super.visitCompoundAssignment(tree, unused);
            }

            @Override
            public Void visitUnary(UnaryTree tree, Void unused) {
                boolean steps = tree.getKind() != Tree.Kind.LOGICAL_COMPLEMENT && tree.getKind() != Tree.Kind.UNARY_MINUS;
                found[0] |= steps && tree.getExpression().toString().equals(name);
                return super.visitUnary(tree, unused);
            }
        }.scan(body, null);
        return found[0];
    }

    private void lookAtCalls() {
        for (String name : calls.keySet()) {
            int depth = depth(name, 1);
            CHECKS.holds("rules 8 and 10: the calls of " + name + " go " + depth + " deep", depth <= DEEPEST);
        }
    }

    private int depth(String name, int above) {
        int deepest = above;
        if (above <= DEEPEST) {
            for (String called : calls.getOrDefault(name, Set.of())) {
                deepest = Math.max(deepest, depth(called, above + 1));
            }
        }
        return deepest;
    }
}
