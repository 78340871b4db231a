import com.sun.source.tree.AssertTree;
import com.sun.source.tree.AssignmentTree;
import com.sun.source.tree.BinaryTree;
import com.sun.source.tree.ClassTree;
import com.sun.source.tree.CompilationUnitTree;
import com.sun.source.tree.DoWhileLoopTree;
import com.sun.source.tree.EnhancedForLoopTree;
import com.sun.source.tree.ExpressionStatementTree;
import com.sun.source.tree.ExpressionTree;
import com.sun.source.tree.ForLoopTree;
import com.sun.source.tree.IdentifierTree;
import com.sun.source.tree.InstanceOfTree;
import com.sun.source.tree.LambdaExpressionTree;
import com.sun.source.tree.LiteralTree;
import com.sun.source.tree.MemberReferenceTree;
import com.sun.source.tree.MemberSelectTree;
import com.sun.source.tree.MethodInvocationTree;
import com.sun.source.tree.MethodTree;
import com.sun.source.tree.NewArrayTree;
import com.sun.source.tree.NewClassTree;
import com.sun.source.tree.StatementTree;
import com.sun.source.tree.SynchronizedTree;
import com.sun.source.tree.ThrowTree;
import com.sun.source.tree.Tree;
import com.sun.source.tree.TryTree;
import com.sun.source.tree.TypeCastTree;
import com.sun.source.tree.UnaryTree;
import com.sun.source.tree.VariableTree;
import com.sun.source.tree.WhileLoopTree;
import com.sun.source.util.JavacTask;
import com.sun.source.util.TreePathScanner;
import com.sun.source.util.Trees;
import java.nio.file.Path;
import java.util.HashMap;
import java.util.HashSet;
import java.util.List;
import java.util.Map;
import java.util.Set;
import java.util.TreeSet;
import javax.lang.model.element.Modifier;
import javax.tools.JavaCompiler;
import javax.tools.StandardJavaFileManager;
import javax.tools.ToolProvider;

/**
 * The rules of LANGUAGE.md that show in the source, looked at in the compiler's
 * own tree of it. Where a rule leaves more than the class uses (while loops,
 * arrays made in the constructor, asking an array's length, overloading), it is
 * the narrower form that is held here: a change that needs more has to widen it.
 */
public final class BlockSealerLanguage extends TreePathScanner<Void, Void> {
    private static final String SOURCE = "src/main/java/BlockSealer.java";
    private static final Set<String> NUMBERS = Set.of("int", "long", "short", "byte", "char", "boolean");
    private static int wrong = 0;

    private final CompilationUnitTree unit;
    private final Trees trees;
    private final Map<String, Set<String>> calls = new HashMap<>();
    private final Set<String> constants = new HashSet<>();
    private String method = "";
    private int fields = 0;

    private BlockSealerLanguage(CompilationUnitTree unit, Trees trees) {
        this.unit = unit;
        this.trees = trees;
    }

    private long line(long position) {
        return unit.getLineMap().getLineNumber(position);
    }

    private void hold(boolean held, Tree at, String rule) {
        if (!held) {
            wrong++;
            long where = line(trees.getSourcePositions().getStartPosition(unit, at));
            System.out.println("broken in line " + where + ": " + rule);
        }
    }

    private void never(Tree at, String rule) {
        hold(false, at, rule);
    }

    @Override
    public Void visitCompilationUnit(CompilationUnitTree t, Void v) {
        hold(t.getPackage() == null, t, "no package line");
        hold(t.getImports().isEmpty(), t, "3: nothing is imported");
        hold(t.getTypeDecls().size() == 1, t, "1: one class");
        return super.visitCompilationUnit(t, v);
    }

    @Override
    public Void visitClass(ClassTree t, Void v) {
        hold(t.getSimpleName().contentEquals("BlockSealer"), t, "1: no other class, nested or not");
        for (Tree member : t.getMembers()) {
            hold(member instanceof MethodTree || member instanceof VariableTree, member, "1, 5: fields and methods alone");
            if (member instanceof VariableTree f && f.getModifiers().getFlags().contains(Modifier.STATIC)) {
                constants.add(f.getName().toString());
            }
        }
        super.visitClass(t, v);
        hold(fields <= 40, t, "10: at most some forty fields, there are " + fields);
        for (String name : calls.keySet()) {
            int depth = depth(name, Set.of());
            hold(depth <= 6, t, "8, 10: " + name + " calls " + (depth > 100 ? "itself" : depth + " deep"));
        }
        return null;
    }

    private int depth(String name, Set<String> above) {
        if (above.contains(name)) {
            return 1000;
        }
        Set<String> here = new TreeSet<>(above);
        here.add(name);
        int deepest = 0;
        for (String called : calls.getOrDefault(name, Set.of())) {
            deepest = Math.max(deepest, depth(called, here));
        }
        return deepest + 1;
    }

    @Override
    public Void visitMethod(MethodTree t, Void v) {
        method = t.getName().toString();
        hold(calls.put(method, new TreeSet<>()) == null, t, "1: " + method + " is the name of one method alone");
        hold(t.getParameters().size() <= 7, t, "10: at most seven parameters");
        Tree result = t.getReturnType();
        hold(result == null || result.toString().equals("void") || NUMBERS.contains(result.toString()), t,
            "2, 4: a method answers a number or nothing");
        long first = line(trees.getSourcePositions().getStartPosition(unit, t));
        long last = line(trees.getSourcePositions().getEndPosition(unit, t));
        hold(last - first < 60, t, "10: " + method + " stays within sixty lines");
        super.visitMethod(t, v);
        method = "";
        return null;
    }

    @Override
    public Void visitVariable(VariableTree t, Void v) {
        String type = t.getType() == null ? "var" : t.getType().toString();
        boolean array = type.endsWith("[]");
        hold(NUMBERS.contains(array ? type.substring(0, type.length() - 2) : type), t, "2: no type " + type);
        Set<Modifier> flags = t.getModifiers().getFlags();
        boolean field = getCurrentPath().getParentPath().getLeaf() instanceof ClassTree;
        if (field && flags.contains(Modifier.STATIC)) {
            hold(flags.contains(Modifier.FINAL) && (type.equals("int") || type.equals("long")), t, "5: constants of int or long");
        } else if (field) {
            fields++;
            hold(!array || flags.contains(Modifier.FINAL), t, "4: no method assigns to an array field");
        } else if (array) {
            hold(t.getInitializer() == null, t, "4: a local name for an array is a parameter alone");
        }
        return super.visitVariable(t, v);
    }

    @Override
    public Void visitNewArray(NewArrayTree t, Void v) {
        hold(method.isEmpty(), t, "4: arrays are made in a field's initialiser");
        boolean sized = t.getDimensions().size() == 1 && t.getInitializers() == null;
        hold(sized && constant(t.getDimensions().get(0)), t, "4: the length is a literal or a constant");
        return super.visitNewArray(t, v);
    }

    private boolean constant(ExpressionTree t) {
        return t instanceof LiteralTree || t instanceof IdentifierTree i && constants.contains(i.getName().toString());
    }

    @Override
    public Void visitMethodInvocation(MethodInvocationTree t, Void v) {
        String called = t.getMethodSelect().toString();
        // The compiler puts a call of super() into a constructor that has none.
        if (!called.equals("super")) {
            hold(t.getMethodSelect() instanceof IdentifierTree, t, "3: " + called + " is not a method of the class");
            calls.get(method).add(called);
        }
        for (ExpressionTree argument : t.getArguments()) {
            hold(!argument.toString().matches(".*\\b\\w+\\(.*"), t, "10: no call inside the arguments of a call");
        }
        return super.visitMethodInvocation(t, v);
    }

    @Override
    public Void visitMemberSelect(MemberSelectTree t, Void v) {
        never(t, "3: " + t + " reaches outside the class");
        return super.visitMemberSelect(t, v);
    }

    @Override
    public Void visitLiteral(LiteralTree t, Void v) {
        Tree.Kind kind = t.getKind();
        boolean number = Set.of(Tree.Kind.INT_LITERAL, Tree.Kind.LONG_LITERAL, Tree.Kind.CHAR_LITERAL,
            Tree.Kind.BOOLEAN_LITERAL).contains(kind);
        hold(number, t, "2, 4: no text, no fraction, no null");
        return super.visitLiteral(t, v);
    }

    @Override
    public Void visitTypeCast(TypeCastTree t, Void v) {
        hold(NUMBERS.contains(t.getType().toString()), t, "6: casts between the number types alone");
        return super.visitTypeCast(t, v);
    }

    @Override
    public Void visitForLoop(ForLoopTree t, Void v) {
        List<? extends StatementTree> start = t.getInitializer();
        List<? extends ExpressionStatementTree> update = t.getUpdate();
        boolean plain = start.size() == 1 && start.get(0) instanceof VariableTree
            && t.getCondition() instanceof BinaryTree && update.size() == 1
            && update.get(0).getExpression() instanceof UnaryTree;
        hold(plain, t, "8: a loop has a counter, a bound and a step of 1");
        if (plain) {
            BinaryTree bound = (BinaryTree) t.getCondition();
            UnaryTree step = (UnaryTree) update.get(0).getExpression();
            String counter = ((VariableTree) start.get(0)).getName().toString();
            boolean up = step.getKind() == Tree.Kind.POSTFIX_INCREMENT
                && (bound.getKind() == Tree.Kind.LESS_THAN || bound.getKind() == Tree.Kind.LESS_THAN_EQUAL);
            boolean down = step.getKind() == Tree.Kind.POSTFIX_DECREMENT
                && (bound.getKind() == Tree.Kind.GREATER_THAN || bound.getKind() == Tree.Kind.GREATER_THAN_EQUAL);
            hold((up || down) && constant(bound.getRightOperand()), t, "8: the counter goes towards a constant bound");
            hold(bound.getLeftOperand().toString().equals(counter) && step.getExpression().toString().equals(counter), t,
                "8: the counter is what is stepped and compared");
            hold(!t.getStatement().toString().matches("(?s).*\\b" + counter + " *([-+*/%&|^]|<<|>>>?)?=[^=].*|.*\\b"
                + counter + "(\\+\\+|--).*|.*(\\+\\+|--)" + counter + "\\b.*"), t, "8: the counter is left alone inside the loop");
        }
        return super.visitForLoop(t, v);
    }

    @Override
    public Void visitWhileLoop(WhileLoopTree t, Void v) {
        never(t, "8: no loop without a counter");
        return super.visitWhileLoop(t, v);
    }

    @Override
    public Void visitDoWhileLoop(DoWhileLoopTree t, Void v) {
        never(t, "8: no loop without a counter");
        return super.visitDoWhileLoop(t, v);
    }

    @Override
    public Void visitEnhancedForLoop(EnhancedForLoopTree t, Void v) {
        never(t, "8: no loop without a counter");
        return super.visitEnhancedForLoop(t, v);
    }

    @Override
    public Void visitAssignment(AssignmentTree t, Void v) {
        hold(!(t.getExpression() instanceof NewArrayTree), t, "4: no array is assigned");
        return super.visitAssignment(t, v);
    }

    @Override
    public Void visitBinary(BinaryTree t, Void v) {
        if (t.getKind() == Tree.Kind.DIVIDE || t.getKind() == Tree.Kind.REMAINDER) {
            hold(constant(t.getRightOperand()), t, "7: a divisor is a constant");
        }
        return super.visitBinary(t, v);
    }

    @Override
    public Void visitNewClass(NewClassTree t, Void v) {
        never(t, "2, 4: no object is made");
        return super.visitNewClass(t, v);
    }

    @Override
    public Void visitThrow(ThrowTree t, Void v) {
        never(t, "6: no throw");
        return super.visitThrow(t, v);
    }

    @Override
    public Void visitTry(TryTree t, Void v) {
        never(t, "6: no try");
        return super.visitTry(t, v);
    }

    @Override
    public Void visitSynchronized(SynchronizedTree t, Void v) {
        never(t, "6: no synchronized");
        return super.visitSynchronized(t, v);
    }

    @Override
    public Void visitAssert(AssertTree t, Void v) {
        never(t, "6: no assert");
        return super.visitAssert(t, v);
    }

    @Override
    public Void visitInstanceOf(InstanceOfTree t, Void v) {
        never(t, "6: no instanceof");
        return super.visitInstanceOf(t, v);
    }

    @Override
    public Void visitLambdaExpression(LambdaExpressionTree t, Void v) {
        never(t, "6: no lambda");
        return super.visitLambdaExpression(t, v);
    }

    @Override
    public Void visitMemberReference(MemberReferenceTree t, Void v) {
        never(t, "6: no method reference");
        return super.visitMemberReference(t, v);
    }

    public static void main(String[] args) throws Exception {
        JavaCompiler compiler = ToolProvider.getSystemJavaCompiler();
        try (StandardJavaFileManager files = compiler.getStandardFileManager(null, null, null)) {
            JavacTask task = (JavacTask) compiler.getTask(null, files, null, List.of("--release", "17"), null,
                files.getJavaFileObjects(Path.of(SOURCE)));
            for (CompilationUnitTree unit : task.parse()) {
                new BlockSealerLanguage(unit, Trees.instance(task)).scan(unit, null);
            }
        }
        System.out.println(wrong == 0 ? "the source keeps the rules" : wrong + " rules are broken");
        if (wrong != 0) {
            System.exit(1);
        }
    }
}
