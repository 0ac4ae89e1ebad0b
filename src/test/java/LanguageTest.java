import com.sun.source.tree.ArrayTypeTree;
import com.sun.source.tree.AssignmentTree;
import com.sun.source.tree.BinaryTree;
import com.sun.source.tree.ClassTree;
import com.sun.source.tree.CompilationUnitTree;
import com.sun.source.tree.CompoundAssignmentTree;
import com.sun.source.tree.ExpressionTree;
import com.sun.source.tree.ForLoopTree;
import com.sun.source.tree.MemberSelectTree;
import com.sun.source.tree.MethodInvocationTree;
import com.sun.source.tree.MethodTree;
import com.sun.source.tree.NewArrayTree;
import com.sun.source.tree.PrimitiveTypeTree;
import com.sun.source.tree.Tree;
import com.sun.source.tree.TypeCastTree;
import com.sun.source.tree.UnaryTree;
import com.sun.source.tree.VariableTree;
import com.sun.source.util.JavacTask;
import com.sun.source.util.TreeScanner;
import java.io.File;
import java.util.EnumSet;
import java.util.HashMap;
import java.util.HashSet;
import java.util.List;
import java.util.Map;
import java.util.Set;
import javax.lang.model.element.Modifier;
import javax.lang.model.type.TypeKind;
import javax.tools.JavaCompiler;
import javax.tools.StandardJavaFileManager;
import javax.tools.ToolProvider;

/** The rules of LANGUAGE.md that can be read off the source; run from the project's root. */
final class LanguageTest extends TreeScanner<Void, Void> {
    private static final File SOURCE = new File("src/main/java/DynamicShortPaths.java");
    private static final int DEEPEST = 6;
    private static final Set<Tree.Kind> BANNED = EnumSet.of(
        Tree.Kind.THROW, Tree.Kind.TRY, Tree.Kind.CATCH, Tree.Kind.SYNCHRONIZED, Tree.Kind.ASSERT,
        Tree.Kind.INSTANCE_OF, Tree.Kind.LAMBDA_EXPRESSION, Tree.Kind.MEMBER_REFERENCE, Tree.Kind.NULL_LITERAL,
        Tree.Kind.NEW_CLASS, Tree.Kind.STRING_LITERAL, Tree.Kind.FLOAT_LITERAL, Tree.Kind.DOUBLE_LITERAL,
        Tree.Kind.IMPORT, Tree.Kind.PACKAGE, Tree.Kind.INTERFACE, Tree.Kind.ENUM, Tree.Kind.RECORD,
        Tree.Kind.ANNOTATION, Tree.Kind.PARAMETERIZED_TYPE);
    // Not banned, but the class needs neither, and without them rules 7 and 8 are easier to see.
    private static final Set<Tree.Kind> DIVISIONS = EnumSet.of(
        Tree.Kind.DIVIDE, Tree.Kind.REMAINDER, Tree.Kind.DIVIDE_ASSIGNMENT, Tree.Kind.REMAINDER_ASSIGNMENT);
    private static final Set<Tree.Kind> LOOPS_WITHOUT_COUNTER = EnumSet.of(
        Tree.Kind.WHILE_LOOP, Tree.Kind.DO_WHILE_LOOP);
    private static final Set<Tree.Kind> STEPS = EnumSet.of(
        Tree.Kind.PREFIX_INCREMENT, Tree.Kind.POSTFIX_INCREMENT,
        Tree.Kind.PREFIX_DECREMENT, Tree.Kind.POSTFIX_DECREMENT);

    private final Map<String, Set<String>> calls = new HashMap<>();
    private final Set<String> publicNames = new HashSet<>();
    private final Set<String> privateNames = new HashSet<>();
    private final Set<String> finalFields = new HashSet<>();
    private final Set<String> counters = new HashSet<>();
    private int classes = 0;
    private int fields = 0;
    private boolean inArguments = false;
    private String method = "";

    private LanguageTest() {
    }

    public static void main(String[] args) throws java.io.IOException {
        JavaCompiler compiler = ToolProvider.getSystemJavaCompiler();
        try (StandardJavaFileManager files = compiler.getStandardFileManager(null, null, null)) {
            JavacTask task = (JavacTask) compiler.getTask(
                null, files, null, List.of(), null, files.getJavaFileObjects(SOURCE));
            LanguageTest test = new LanguageTest();
            for (CompilationUnitTree unit : task.parse()) {
                test.scan(unit, null);
            }
            test.judge();
        }
        Check.end();
    }

    private static void rule(int number, String what, boolean kept) {
        Check.same("rule " + number + ", " + what, kept, true);
    }

    private void judge() {
        rule(1, "one class", classes == 1);
        for (String name : privateNames) {
            rule(1, name + " is both private and public", !publicNames.contains(name));
        }
        rule(10, fields + " fields", fields > 0 && fields <= 40);
        for (String name : calls.keySet()) {
            // A method that comes back to itself goes deeper than any bound, so this is rule 8 too.
            rule(10, name + " goes at most six deep", depth(name, 0) <= DEEPEST);
        }
    }

    private int depth(String name, int above) {
        int deepest = 0;
        if (above <= DEEPEST) {
            for (String callee : calls.getOrDefault(name, Set.of())) {
                deepest = Math.max(deepest, depth(callee, above + 1));
            }
        }
        return deepest + 1;
    }

    @Override
    public Void scan(Tree tree, Void nothing) {
        if (tree != null) {
            String found = "no " + tree.getKind() + ": " + tree;
            rule(6, found, !BANNED.contains(tree.getKind()));
            rule(7, found, !DIVISIONS.contains(tree.getKind()));
            rule(8, found, !LOOPS_WITHOUT_COUNTER.contains(tree.getKind()));
        }
        return super.scan(tree, nothing);
    }

    @Override
    public Void visitClass(ClassTree tree, Void nothing) {
        classes++;
        rule(2, "no class or interface above", tree.getExtendsClause() == null && tree.getImplementsClause().isEmpty());
        for (Tree member : tree.getMembers()) {
            rule(5, "no initialiser block", member.getKind() != Tree.Kind.BLOCK);
            if (member instanceof VariableTree) {
                field((VariableTree) member);
            }
        }
        return super.visitClass(tree, nothing);
    }

    private void field(VariableTree field) {
        Set<Modifier> flags = field.getModifiers().getFlags();
        if (flags.contains(Modifier.FINAL)) {
            finalFields.add(field.getName().toString());
        }
        rule(4, field + " is never assigned to", flags.contains(Modifier.FINAL) || !isArray(field));
        if (flags.contains(Modifier.STATIC)) {
            String type = field.getType().toString();
            boolean number = type.equals("int") || type.equals("long");
            rule(5, field.toString(), number && flags.contains(Modifier.FINAL));
            return;
        }
        fields++;
        rule(1, field + " is private", flags.contains(Modifier.PRIVATE));
    }

    @Override
    public Void visitMethod(MethodTree tree, Void nothing) {
        method = tree.getName().toString();
        calls.putIfAbsent(method, new HashSet<>());
        boolean open = tree.getModifiers().getFlags().contains(Modifier.PUBLIC);
        (open ? publicNames : privateNames).add(method);
        rule(10, method + " has at most seven parameters", tree.getParameters().size() <= 7);
        rule(10, method + " is short", tree.toString().lines().count() <= 60);
        rule(4, method + " answers no array", !(tree.getReturnType() instanceof ArrayTypeTree));
        super.visitMethod(tree, nothing);
        method = "";
        return null;
    }

    @Override
    public Void visitVariable(VariableTree tree, Void nothing) {
        Tree type = tree.getType();
        Tree plain = isArray(tree) ? ((ArrayTypeTree) type).getType() : type;
        rule(2, tree.toString(), plain instanceof PrimitiveTypeTree);
        return super.visitVariable(tree, nothing);
    }

    private static boolean isArray(VariableTree tree) {
        return tree.getType() instanceof ArrayTypeTree;
    }

    @Override
    public Void visitPrimitiveType(PrimitiveTypeTree tree, Void nothing) {
        TypeKind kind = tree.getPrimitiveTypeKind();
        rule(2, tree.toString(), kind != TypeKind.FLOAT && kind != TypeKind.DOUBLE);
        return super.visitPrimitiveType(tree, nothing);
    }

    @Override
    public Void visitNewArray(NewArrayTree tree, Void nothing) {
        boolean sized = tree.getInitializers() == null && tree.getDimensions().size() == 1;
        rule(4, tree + " stands in a field's initialiser", method.isEmpty());
        rule(4, tree + " has one plain length", sized && isPlain(tree.getDimensions().get(0)));
        return super.visitNewArray(tree, nothing);
    }

    private static boolean isPlain(ExpressionTree length) {
        return length.getKind() == Tree.Kind.INT_LITERAL || length.getKind() == Tree.Kind.IDENTIFIER;
    }

    @Override
    public Void visitMethodInvocation(MethodInvocationTree tree, Void nothing) {
        String callee = tree.getMethodSelect().toString();
        // The compiler's parser gives the constructor no super() yet, so every name is the class's own.
        rule(3, callee + " is a method of this class", tree.getMethodSelect().getKind() == Tree.Kind.IDENTIFIER);
        rule(10, tree + " stands in no call's arguments", !inArguments);
        rule(7, callee + " is called in a method", !method.isEmpty());
        calls.computeIfAbsent(method, name -> new HashSet<>()).add(callee);
        boolean outer = inArguments;
        inArguments = true;
        super.visitMethodInvocation(tree, nothing);
        inArguments = outer;
        return null;
    }

    @Override
    public Void visitMemberSelect(MemberSelectTree tree, Void nothing) {
        boolean own = tree.getExpression().toString().equals("this");
        boolean length = tree.getIdentifier().contentEquals("length");
        rule(3, tree + " is a field of this class or an array's length", own || length);
        return super.visitMemberSelect(tree, nothing);
    }

    @Override
    public Void visitTypeCast(TypeCastTree tree, Void nothing) {
        rule(6, tree + " is a cast between numbers", tree.getType() instanceof PrimitiveTypeTree);
        return super.visitTypeCast(tree, nothing);
    }

    /** Stricter than rule 8, so that a look at the loop's head is enough: for (int i = ..; i < bound; i++). */
    @Override
    public Void visitForLoop(ForLoopTree tree, Void nothing) {
        String counter = counterOf(tree);
        String head = "for (" + tree.getInitializer() + "; " + tree.getCondition() + "; " + tree.getUpdate() + ")";
        rule(8, head + " counts one by one", tree.getUpdate().toString().equals(counter + "++;"));
        rule(8, head + " counts against a bound that stays", hasFixedBound(tree.getCondition(), counter));
        scan(tree.getInitializer(), nothing);
        scan(tree.getCondition(), nothing);
        boolean added = counters.add(counter);
        rule(8, head + " has a counter of its own", added);
        scan(tree.getStatement(), nothing);
        counters.remove(counter);
        return null;
    }

    private static String counterOf(ForLoopTree tree) {
        boolean one = tree.getInitializer().size() == 1 && tree.getInitializer().get(0) instanceof VariableTree;
        return one ? ((VariableTree) tree.getInitializer().get(0)).getName().toString() : "";
    }

    private boolean hasFixedBound(ExpressionTree condition, String counter) {
        if (condition == null || condition.getKind() != Tree.Kind.LESS_THAN) {
            return false;
        }
        BinaryTree less = (BinaryTree) condition;
        ExpressionTree bound = less.getRightOperand();
        boolean fixed = bound.getKind() == Tree.Kind.INT_LITERAL || finalFields.contains(bound.toString());
        return less.getLeftOperand().toString().equals(counter) && fixed;
    }

    @Override
    public Void visitAssignment(AssignmentTree tree, Void nothing) {
        leavesCounters(tree, tree.getVariable());
        return super.visitAssignment(tree, nothing);
    }

    @Override
    public Void visitCompoundAssignment(CompoundAssignmentTree tree, Void nothing) {
        leavesCounters(tree, tree.getVariable());
        return super.visitCompoundAssignment(tree, nothing);
    }

    @Override
    public Void visitUnary(UnaryTree tree, Void nothing) {
        if (STEPS.contains(tree.getKind())) {
            leavesCounters(tree, tree.getExpression());
        }
        return super.visitUnary(tree, nothing);
    }

    private void leavesCounters(Tree change, ExpressionTree changed) {
        rule(8, change + " leaves the counters of the loops around it", !counters.contains(changed.toString()));
    }
}
