import com.sun.source.tree.AssignmentTree;
import com.sun.source.tree.BinaryTree;
import com.sun.source.tree.ClassTree;
import com.sun.source.tree.CompilationUnitTree;
import com.sun.source.tree.CompoundAssignmentTree;
import com.sun.source.tree.ExpressionTree;
import com.sun.source.tree.ForLoopTree;
import com.sun.source.tree.LineMap;
import com.sun.source.tree.MemberSelectTree;
import com.sun.source.tree.MethodInvocationTree;
import com.sun.source.tree.MethodTree;
import com.sun.source.tree.NewArrayTree;
import com.sun.source.tree.Tree;
import com.sun.source.tree.TypeCastTree;
import com.sun.source.tree.UnaryTree;
import com.sun.source.tree.VariableTree;
import com.sun.source.util.JavacTask;
import com.sun.source.util.SourcePositions;
import com.sun.source.util.TreeScanner;
import com.sun.source.util.Trees;
import java.io.IOException;
import java.nio.file.Path;
import java.util.ArrayList;
import java.util.List;
import java.util.Map;
import java.util.Set;
import java.util.TreeMap;
import java.util.TreeSet;
import javax.lang.model.element.Modifier;
import javax.tools.JavaCompiler;
import javax.tools.StandardJavaFileManager;
import javax.tools.ToolProvider;

/**
 * The rules of LANGUAGE.md that can be read off the source. FaceTest has the rest of rule 1; rule 11
 * follows from 2 and 3. Loops, arrays and divisors are held to the one form that the class needs,
 * which is narrower than the rules: another form wants a look at the rule before this test is widened.
 */
public final class LanguageTest {
    private static final Path SOURCE = Path.of("src/main/java/ClosureDesk.java");
    private static final int DEEPEST = 6;
    private static final int LONGEST = 60;
    private static final int PARAMETERS = 7;
    private static final int FIELDS = 40;
    private static final Set<String> NUMBERS = Set.of("int", "long", "short", "byte", "char");
    private static final Set<String> ANSWERS = Set.of("int", "long", "short", "byte", "char", "boolean", "void");
    private static final Set<String> TYPES = Set.of(
        "int", "long", "short", "byte", "char", "boolean",
        "int[]", "long[]", "short[]", "byte[]", "char[]", "boolean[]");
    private static final Set<Tree.Kind> STEPS = Set.of(
        Tree.Kind.POSTFIX_INCREMENT, Tree.Kind.POSTFIX_DECREMENT, Tree.Kind.PREFIX_INCREMENT, Tree.Kind.PREFIX_DECREMENT);
    private static final Set<Tree.Kind> BARRED = Set.of(
        Tree.Kind.THROW, Tree.Kind.TRY, Tree.Kind.SYNCHRONIZED, Tree.Kind.ASSERT, Tree.Kind.INSTANCE_OF,
        Tree.Kind.LAMBDA_EXPRESSION, Tree.Kind.MEMBER_REFERENCE, Tree.Kind.NEW_CLASS, Tree.Kind.NULL_LITERAL,
        Tree.Kind.STRING_LITERAL, Tree.Kind.FLOAT_LITERAL, Tree.Kind.DOUBLE_LITERAL, Tree.Kind.IMPORT,
        Tree.Kind.PACKAGE, Tree.Kind.WHILE_LOOP, Tree.Kind.DO_WHILE_LOOP, Tree.Kind.ENHANCED_FOR_LOOP);
    private static int wrong = 0;

    public static void main(String[] args) throws IOException {
        JavaCompiler compiler = ToolProvider.getSystemJavaCompiler();
        try (StandardJavaFileManager files = compiler.getStandardFileManager(null, null, null)) {
            JavacTask task = (JavacTask) compiler.getTask(null, files, null, null, null, files.getJavaFileObjects(SOURCE));
            CompilationUnitTree unit = task.parse().iterator().next();
            due(unit.getTypeDecls().size() == 1, "1: the file has not one class");
            unit.accept(new Barred(), null);
            ClassTree type = (ClassTree) unit.getTypeDecls().get(0);
            fields(type);
            methods(type, unit, Trees.instance(task).getSourcePositions());
        }
        System.out.println(wrong == 0 ? "the language is as due" : wrong + " rules are broken");
        if (wrong != 0) {
            System.exit(1);
        }
    }

    private static void due(boolean holds, String fault) {
        if (!holds) {
            wrong++;
            System.out.println("rule " + fault);
        }
    }

    private static void fields(ClassTree type) {
        int ownFields = 0;
        for (Tree member : type.getMembers()) {
            due(!(member instanceof ClassTree), "1: a nested class");
            due(member.getKind() != Tree.Kind.BLOCK, "5: an initialiser");
            if (member instanceof VariableTree field) {
                Set<Modifier> modifiers = field.getModifiers().getFlags();
                String kind = field.getType().toString();
                if (modifiers.contains(Modifier.STATIC)) {
                    due(modifiers.contains(Modifier.FINAL), "5: " + field.getName() + " is no constant");
                    due(kind.equals("int") || kind.equals("long"), "5: " + field.getName() + " is neither int nor long");
                    boolean plain = field.getInitializer() != null && !field.getInitializer().toString().matches(".*\\w\\(.*");
                    due(plain, "5: " + field.getName() + " is no compile-time constant");
                } else {
                    ownFields++;
                }
                boolean made = field.getInitializer() instanceof NewArrayTree;
                boolean kept = modifiers.contains(Modifier.FINAL);
                due(!kind.endsWith("[]") || made && kept, "4: " + field.getName() + " is not one array from the start");
            }
        }
        due(ownFields <= FIELDS, "10: too many fields");
    }

    private static void methods(ClassTree type, CompilationUnitTree unit, SourcePositions positions) {
        LineMap lines = unit.getLineMap();
        Map<String, Set<String>> callees = new TreeMap<>();
        for (Tree member : type.getMembers()) {
            if (member instanceof MethodTree method) {
                String name = method.getName().toString();
                due(method.getParameters().size() <= PARAMETERS, "10: " + name + " has too many parameters");
                long first = lines.getLineNumber(positions.getStartPosition(unit, method));
                long last = lines.getLineNumber(positions.getEndPosition(unit, method));
                due(last - first < LONGEST, "10: " + name + " is too long");
                MethodBody body = new MethodBody(name);
                method.accept(body, null);
                due(!callees.containsKey(name), "1: " + name + " stands there twice");
                callees.put(name, body.called);
            }
        }
        for (String name : callees.keySet()) {
            follow(callees, name, new ArrayList<>());
        }
    }

    // Every way from call to call by the text alone, whether or not a run can take it.
    private static void follow(Map<String, Set<String>> callees, String name, List<String> above) {
        due(callees.containsKey(name), "3: " + name + " is no method of the class");
        due(!above.contains(name), "8: " + above + " comes back to " + name);
        if (above.contains(name) || !callees.containsKey(name)) {
            return;
        }
        List<String> way = new ArrayList<>(above);
        way.add(name);
        due(way.size() <= DEEPEST, "10: " + way + " goes more than six deep");
        for (String callee : callees.get(name)) {
            follow(callees, callee, way);
        }
    }

    private static final class Barred extends TreeScanner<Void, Void> {
        private final Set<String> arrays = new TreeSet<>();

        @Override
        public Void scan(Tree tree, Void none) {
            if (tree != null) {
                due(!BARRED.contains(tree.getKind()), "2, 3, 6 or 8: " + tree);
            }
            return super.scan(tree, none);
        }

        @Override
        public Void visitVariable(VariableTree variable, Void none) {
            String type = variable.getType().toString();
            due(TYPES.contains(type), "2: " + variable);
            if (type.endsWith("[]")) {
                arrays.add(variable.getName().toString());
            }
            return super.visitVariable(variable, none);
        }

        // Only a constructor has no type.
        @Override
        public Void visitMethod(MethodTree method, Void none) {
            Tree answer = method.getReturnType();
            due(answer == null || ANSWERS.contains(answer.toString()), "2 or 4: " + method.getName() + " answers " + answer);
            return super.visitMethod(method, none);
        }

        @Override
        public Void visitTypeCast(TypeCastTree cast, Void none) {
            due(NUMBERS.contains(cast.getType().toString()), "6: " + cast);
            return super.visitTypeCast(cast, none);
        }

        @Override
        public Void visitNewArray(NewArrayTree array, Void none) {
            due(array.getInitializers() == null && array.getDimensions().size() == 1, "4: " + array);
            for (ExpressionTree length : array.getDimensions()) {
                due(isFixed(length), "4: " + array);
            }
            return super.visitNewArray(array, none);
        }

        @Override
        public Void visitBinary(BinaryTree binary, Void none) {
            divisor(binary, binary.getRightOperand());
            due(!namesArray(binary.getLeftOperand()) && !namesArray(binary.getRightOperand()), "4: " + binary);
            return super.visitBinary(binary, none);
        }

        @Override
        public Void visitCompoundAssignment(CompoundAssignmentTree assignment, Void none) {
            divisor(assignment, assignment.getExpression());
            return super.visitCompoundAssignment(assignment, none);
        }

        @Override
        public Void visitAssignment(AssignmentTree assignment, Void none) {
            due(!namesArray(assignment.getVariable()), "4: " + assignment);
            return super.visitAssignment(assignment, none);
        }

        private boolean namesArray(ExpressionTree tree) {
            return arrays.contains(tree.toString().replace("this.", ""));
        }

        private void divisor(Tree tree, ExpressionTree right) {
            boolean divides = Set.of(Tree.Kind.DIVIDE, Tree.Kind.REMAINDER, Tree.Kind.DIVIDE_ASSIGNMENT,
                Tree.Kind.REMAINDER_ASSIGNMENT).contains(tree.getKind());
            due(!divides || isFixed(right), "7: " + tree);
        }

        // for (int counter = ..; counter < FIXED; counter++), and nothing in the body moves the counter.
        @Override
        public Void visitForLoop(ForLoopTree loop, Void none) {
            String head = "8: for (" + loop.getInitializer() + "; " + loop.getCondition() + "; " + loop.getUpdate() + ")";
            boolean plain = loop.getInitializer().size() == 1 && loop.getUpdate().size() == 1
                && loop.getInitializer().get(0) instanceof VariableTree
                && loop.getCondition() instanceof BinaryTree;
            due(plain, head);
            if (plain) {
                String counter = ((VariableTree) loop.getInitializer().get(0)).getName().toString();
                BinaryTree condition = (BinaryTree) loop.getCondition();
                due(condition.getKind() == Tree.Kind.LESS_THAN, head);
                due(condition.getLeftOperand().toString().equals(counter) && isFixed(condition.getRightOperand()), head);
                due(loop.getUpdate().get(0).toString().equals(counter + "++;"), head);
                loop.getStatement().accept(new Unmoved(counter), null);
            }
            return super.visitForLoop(loop, none);
        }

        // A dot leads to another class, but for an array's length and the object's own fields.
        @Override
        public Void visitMemberSelect(MemberSelectTree select, Void none) {
            boolean own = select.getExpression().toString().equals("this");
            due(own || select.getIdentifier().contentEquals("length"), "3: " + select);
            return super.visitMemberSelect(select, none);
        }
    }

    // A literal of 1 or more, or a constant; only constants are written in capitals.
    private static boolean isFixed(ExpressionTree tree) {
        return tree.toString().matches("[1-9][0-9]*|[A-Z][A-Z_]*");
    }

    private static final class Unmoved extends TreeScanner<Void, Void> {
        private final String counter;

        private Unmoved(String counter) {
            this.counter = counter;
        }

        private void unmoved(ExpressionTree changed) {
            due(!changed.toString().equals(counter), "8: a loop's body moves its counter " + counter);
        }

        @Override
        public Void visitAssignment(AssignmentTree assignment, Void none) {
            unmoved(assignment.getVariable());
            return super.visitAssignment(assignment, none);
        }

        @Override
        public Void visitCompoundAssignment(CompoundAssignmentTree assignment, Void none) {
            unmoved(assignment.getVariable());
            return super.visitCompoundAssignment(assignment, none);
        }

        @Override
        public Void visitUnary(UnaryTree unary, Void none) {
            if (STEPS.contains(unary.getKind())) {
                unmoved(unary.getExpression());
            }
            return super.visitUnary(unary, none);
        }
    }

    private static final class MethodBody extends TreeScanner<Void, Void> {
        private final String name;
        private final Set<String> called = new TreeSet<>();
        private int insideArguments = 0;

        private MethodBody(String name) {
            this.name = name;
        }

        @Override
        public Void scan(Tree tree, Void none) {
            boolean makesArray = tree != null && tree.getKind() == Tree.Kind.NEW_ARRAY;
            due(!makesArray, "4: " + name + " makes an array");
            return super.scan(tree, none);
        }

        @Override
        public Void visitMethodInvocation(MethodInvocationTree call, Void none) {
            String callee = call.getMethodSelect().toString();
            called.add(callee);
            due(insideArguments == 0, "10: " + callee + " stands in the arguments of another call");
            insideArguments++;
            for (ExpressionTree argument : call.getArguments()) {
                scan(argument, none);
            }
            insideArguments--;
            return null;
        }
    }
}
