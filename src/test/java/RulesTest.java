import com.sun.source.tree.ArrayTypeTree;
import com.sun.source.tree.AssignmentTree;
import com.sun.source.tree.BinaryTree;
import com.sun.source.tree.ClassTree;
import com.sun.source.tree.CompilationUnitTree;
import com.sun.source.tree.CompoundAssignmentTree;
import com.sun.source.tree.ExpressionTree;
import com.sun.source.tree.ForLoopTree;
import com.sun.source.tree.IdentifierTree;
import com.sun.source.tree.LiteralTree;
import com.sun.source.tree.MethodInvocationTree;
import com.sun.source.tree.MethodTree;
import com.sun.source.tree.NewArrayTree;
import com.sun.source.tree.PrimitiveTypeTree;
import com.sun.source.tree.Tree;
import com.sun.source.tree.UnaryTree;
import com.sun.source.tree.VariableTree;
import com.sun.source.util.JavacTask;
import com.sun.source.util.SourcePositions;
import com.sun.source.util.TreePath;
import com.sun.source.util.TreePathScanner;
import com.sun.source.util.TreeScanner;
import com.sun.source.util.Trees;
import java.io.IOException;
import java.nio.file.Path;
import java.util.EnumSet;
import java.util.List;
import java.util.Map;
import java.util.Set;
import java.util.TreeMap;
import java.util.TreeSet;
import javax.lang.model.element.Modifier;
import javax.lang.model.type.TypeKind;
import javax.tools.JavaCompiler;
import javax.tools.StandardJavaFileManager;
import javax.tools.ToolProvider;

/**
 * The class keeps to LANGUAGE.md, as far as its source shows it. What the rules allow under conditions and the class
 * does without is refused here whole: that is plainer than telling the good uses from the bad ones.
 */
public final class RulesTest extends TreePathScanner<Void, Void> {
    private static final String SOURCE = "src/main/java/QueryPushCompiler.java";
    private static final int MOST_PARAMETERS = 7;
    private static final int MOST_LINES = 60;
    private static final int MOST_DEPTH = 6;
    private static final int MOST_FIELDS = 40;

    private static final Set<Tree.Kind> REFUSED = EnumSet.of(
            Tree.Kind.NULL_LITERAL, Tree.Kind.STRING_LITERAL, Tree.Kind.FLOAT_LITERAL, Tree.Kind.DOUBLE_LITERAL,
            Tree.Kind.MEMBER_SELECT, Tree.Kind.MEMBER_REFERENCE, Tree.Kind.LAMBDA_EXPRESSION, Tree.Kind.NEW_CLASS,
            Tree.Kind.PARAMETERIZED_TYPE, Tree.Kind.ANNOTATION, Tree.Kind.THROW, Tree.Kind.TRY,
            Tree.Kind.SYNCHRONIZED, Tree.Kind.ASSERT, Tree.Kind.INSTANCE_OF, Tree.Kind.TYPE_CAST,
            Tree.Kind.WHILE_LOOP, Tree.Kind.DO_WHILE_LOOP, Tree.Kind.ENHANCED_FOR_LOOP,
            Tree.Kind.DIVIDE, Tree.Kind.DIVIDE_ASSIGNMENT, Tree.Kind.REMAINDER, Tree.Kind.REMAINDER_ASSIGNMENT);
    private static final Set<TypeKind> NUMBERS = EnumSet.of(
            TypeKind.INT, TypeKind.LONG, TypeKind.SHORT, TypeKind.BYTE, TypeKind.CHAR, TypeKind.BOOLEAN, TypeKind.VOID);

    private static final Due due = new Due();

    private final CompilationUnitTree unit;
    private final SourcePositions positions;
    private final Set<String> constants = new TreeSet<>();
    private final Set<String> fields = new TreeSet<>();
    private final Map<String, Set<String>> callees = new TreeMap<>();
    private String caller = "";

    private RulesTest(CompilationUnitTree unit, SourcePositions positions) {
        this.unit = unit;
        this.positions = positions;
    }

    public static void main(String[] args) throws IOException {
        JavaCompiler compiler = ToolProvider.getSystemJavaCompiler();
        try (StandardJavaFileManager files = compiler.getStandardFileManager(null, null, null)) {
            JavacTask task = (JavacTask) compiler.getTask(null, files, null, null, null,
                    files.getJavaFileObjects(Path.of(SOURCE)));
            CompilationUnitTree unit = task.parse().iterator().next();
            new RulesTest(unit, Trees.instance(task).getSourcePositions()).everyRule();
        }
        due.end();
    }

    private static void rule(int number, String claim, boolean holds) {
        due.isTrue("rule " + number + ": " + claim, holds);
    }

    private void everyRule() {
        theFile();
        scan(new TreePath(unit), null);
        callsEnd();
        rule(10, "at most " + MOST_FIELDS + " fields, got " + fields.size(), fields.size() <= MOST_FIELDS);
        due.isTrue("there is something to look at", callees.size() > 22 && constants.size() > 25);
    }

    private void theFile() {
        rule(1, "no package line", unit.getPackageName() == null);
        rule(3, "nothing is imported", unit.getImports().isEmpty());
        rule(1, "one class", unit.getTypeDecls().size() == 1);
        ClassTree type = (ClassTree) unit.getTypeDecls().get(0);
        rule(2, "no other class above it", type.getExtendsClause() == null && type.getImplementsClause().isEmpty());
        for (Tree member : type.getMembers()) {
            rule(1, "a field or a method: " + member, member instanceof VariableTree || member instanceof MethodTree);
            if (member instanceof VariableTree) {
                VariableTree field = (VariableTree) member;
                boolean isStatic = field.getModifiers().getFlags().contains(Modifier.STATIC);
                (isStatic ? constants : fields).add(field.getName().toString());
            }
        }
    }

    @Override
    public Void scan(Tree tree, Void none) {
        if (tree != null) {
            due.isTrue("rules 2 to 8: no " + tree.getKind() + ": " + tree, !REFUSED.contains(tree.getKind()));
        }
        return super.scan(tree, none);
    }

    @Override
    public Void visitPrimitiveType(PrimitiveTypeTree type, Void none) {
        rule(2, "whole numbers: " + type, NUMBERS.contains(type.getPrimitiveTypeKind()));
        return super.visitPrimitiveType(type, none);
    }

    @Override
    public Void visitVariable(VariableTree variable, Void none) {
        Tree type = variable.getType();
        if (parent() instanceof ClassTree) {
            field(variable);
        } else {
            rule(2, "a number: " + variable, type instanceof PrimitiveTypeTree);
        }
        return super.visitVariable(variable, none);
    }

    private void field(VariableTree field) {
        Set<Modifier> flags = field.getModifiers().getFlags();
        if (flags.contains(Modifier.STATIC)) {
            boolean isInt = List.of("int", "long").contains(field.getType().toString());
            rule(5, "a constant of int or long: " + field,
                    isInt && flags.contains(Modifier.FINAL) && isLiteral(field.getInitializer()));
        } else if (field.getType() instanceof ArrayTypeTree) {
            Tree cell = ((ArrayTypeTree) field.getType()).getType();
            rule(2, "one dimension, of numbers: " + field, cell instanceof PrimitiveTypeTree);
            rule(4, "made once: " + field,
                    flags.contains(Modifier.FINAL) && field.getInitializer() instanceof NewArrayTree);
        } else {
            rule(2, "a number: " + field, field.getType() instanceof PrimitiveTypeTree);
        }
    }

    private static boolean isLiteral(Tree value) {
        boolean isNegative = value != null && value.getKind() == Tree.Kind.UNARY_MINUS;
        return value instanceof LiteralTree || isNegative && isLiteral(((UnaryTree) value).getExpression());
    }

    @Override
    public Void visitNewArray(NewArrayTree array, Void none) {
        rule(4, "made in a field's initialiser: " + array, caller.isEmpty() && parent() instanceof VariableTree);
        List<? extends ExpressionTree> lengths = array.getDimensions();
        rule(4, "of a constant length: " + array, array.getInitializers() == null && lengths.size() == 1
                && constants.contains(lengths.get(0).toString()));
        return super.visitNewArray(array, none);
    }

    @Override
    public Void visitMethod(MethodTree method, Void none) {
        caller = method.getName().toString();
        rule(1, "one method of the name " + caller, callees.put(caller, new TreeSet<>()) == null);
        rule(4, caller + " answers no array", !(method.getReturnType() instanceof ArrayTypeTree));
        rule(10, caller + " takes at most " + MOST_PARAMETERS, method.getParameters().size() <= MOST_PARAMETERS);
        long lines = line(positions.getEndPosition(unit, method)) - line(positions.getStartPosition(unit, method)) + 1;
        rule(10, caller + " has at most " + MOST_LINES + " lines, got " + lines, lines <= MOST_LINES);
        super.visitMethod(method, none);
        caller = "";
        return null;
    }

    private long line(long position) {
        return unit.getLineMap().getLineNumber(position);
    }

    @Override
    public Void visitMethodInvocation(MethodInvocationTree call, Void none) {
        rule(4, "a field's initialiser calls nothing: " + call, !caller.isEmpty());
        callees.computeIfAbsent(caller, other -> new TreeSet<>()).add(call.getMethodSelect().toString());
        for (ExpressionTree argument : call.getArguments()) {
            rule(10, "no call inside the arguments of " + call, !hasCall(argument));
        }
        return super.visitMethodInvocation(call, none);
    }

    private static boolean hasCall(Tree tree) {
        boolean[] found = {false};
        tree.accept(new TreeScanner<Void, Void>() {
            @Override
            public Void visitMethodInvocation(MethodInvocationTree call, Void none) {
                found[0] = true;
                return super.visitMethodInvocation(call, none);
            }
        }, null);
        return found[0];
    }

    /** A loop is a counter that goes up by one to a bound, neither of which its body can change. */
    @Override
    public Void visitForLoop(ForLoopTree loop, Void none) {
        String head = loop.getInitializer() + " " + loop.getCondition() + " " + loop.getUpdate();
        boolean hasOneOfEach = loop.getInitializer().size() == 1 && loop.getUpdate().size() == 1
                && loop.getInitializer().get(0) instanceof VariableTree && loop.getCondition() instanceof BinaryTree;
        rule(8, "a loop with a counter and a bound: " + head, hasOneOfEach);
        if (hasOneOfEach) {
            String counter = ((VariableTree) loop.getInitializer().get(0)).getName().toString();
            BinaryTree condition = (BinaryTree) loop.getCondition();
            String bound = condition.getRightOperand().toString();
            boolean isBelow = condition.getKind() == Tree.Kind.LESS_THAN
                    || condition.getKind() == Tree.Kind.LESS_THAN_EQUAL;
            rule(8, "the counter stays below the bound: " + head,
                    isBelow && condition.getLeftOperand().toString().equals(counter));
            rule(8, "the bound is a name: " + head, condition.getRightOperand() instanceof IdentifierTree);
            rule(8, "the counter goes up: " + head, loop.getUpdate().get(0).toString().equals(counter + "++;"));
            Set<String> changed = changedIn(loop.getStatement());
            rule(8, "both stay as they are: " + head, !changed.contains(counter) && !changed.contains(bound));
            rule(8, "no call can change the bound: " + head, !fields.contains(bound) || !hasCall(loop.getStatement()));
        }
        return super.visitForLoop(loop, none);
    }

    private static Set<String> changedIn(Tree body) {
        Set<String> names = new TreeSet<>();
        body.accept(new TreeScanner<Void, Void>() {
            @Override
            public Void visitAssignment(AssignmentTree change, Void none) {
                names.add(change.getVariable().toString());
                return super.visitAssignment(change, none);
            }

            @Override
            public Void visitCompoundAssignment(CompoundAssignmentTree change, Void none) {
                names.add(change.getVariable().toString());
                return super.visitCompoundAssignment(change, none);
            }

            @Override
            public Void visitUnary(UnaryTree change, Void none) {
                names.add(change.getExpression().toString());
                return super.visitUnary(change, none);
            }
        }, null);
        return names;
    }

    /** Takes the methods away that call no others but those taken before; what a recursion holds is never taken. */
    private void callsEnd() {
        Map<String, Set<String>> left = new TreeMap<>(callees);
        for (Set<String> names : callees.values()) {
            rule(3, "calls of its own methods alone: " + names, callees.keySet().containsAll(names));
        }
        for (int depth = 1; depth <= MOST_DEPTH; depth++) {
            Set<String> callers = new TreeSet<>(left.keySet());
            left.values().removeIf(names -> names.stream().noneMatch(callers::contains));
        }
        rule(8, "no recursion, and at most " + MOST_DEPTH + " calls deep: " + left.keySet(), left.isEmpty());
    }

    private Tree parent() {
        return getCurrentPath().getParentPath().getLeaf();
    }
}
