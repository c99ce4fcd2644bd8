import com.sun.source.tree.ClassTree;
import com.sun.source.tree.CompilationUnitTree;
import com.sun.source.tree.ExpressionTree;
import com.sun.source.tree.LineMap;
import com.sun.source.tree.MemberSelectTree;
import com.sun.source.tree.MethodInvocationTree;
import com.sun.source.tree.MethodTree;
import com.sun.source.tree.Tree;
import com.sun.source.tree.VariableTree;
import com.sun.source.util.JavacTask;
import com.sun.source.util.SourcePositions;
import com.sun.source.util.TreeScanner;
import com.sun.source.util.Trees;
import java.io.IOException;
import java.nio.file.Path;
import java.util.ArrayList;
import java.util.List;
import java.util.Map;
import java.util.Set;
import java.util.TreeMap;
import java.util.TreeSet;
import javax.lang.model.element.Modifier;
import javax.tools.JavaCompiler;
import javax.tools.StandardJavaFileManager;
import javax.tools.ToolProvider;

/** The rules of LANGUAGE.md that can be read off the source; FaceTest has the rest of rule 1. */
public final class LanguageTest {
    private static final Path SOURCE = Path.of("src/main/java/ClosureDesk.java");
    private static final int DEEPEST = 6;
    private static final int LONGEST = 60;
    private static final int PARAMETERS = 7;
    private static final int FIELDS = 40;
    private static final Set<String> TYPES = Set.of(
        "int", "long", "short", "byte", "char", "boolean", "void",
        "int[]", "long[]", "short[]", "byte[]", "char[]", "boolean[]");
    private static final Set<Tree.Kind> BARRED = Set.of(
        Tree.Kind.THROW, Tree.Kind.TRY, Tree.Kind.SYNCHRONIZED, Tree.Kind.ASSERT, Tree.Kind.INSTANCE_OF,
        Tree.Kind.LAMBDA_EXPRESSION, Tree.Kind.MEMBER_REFERENCE, Tree.Kind.NEW_CLASS, Tree.Kind.NULL_LITERAL,
        Tree.Kind.STRING_LITERAL, Tree.Kind.FLOAT_LITERAL, Tree.Kind.DOUBLE_LITERAL, Tree.Kind.IMPORT,
        Tree.Kind.PACKAGE);
    private static int wrong = 0;

    public static void main(String[] args) throws IOException {
        JavaCompiler compiler = ToolProvider.getSystemJavaCompiler();
        try (StandardJavaFileManager files = compiler.getStandardFileManager(null, null, null)) {
            JavacTask task = (JavacTask) compiler.getTask(null, files, null, null, null, files.getJavaFileObjects(SOURCE));
            CompilationUnitTree unit = task.parse().iterator().next();
            due(unit.getTypeDecls().size() == 1, "1: the file has not one class");
            unit.accept(new Barred(), null);
            ClassTree type = (ClassTree) unit.getTypeDecls().get(0);
            fields(type);
            methods(type, unit, Trees.instance(task).getSourcePositions());
        }
        System.out.println(wrong == 0 ? "the language is as due" : wrong + " rules are broken");
        if (wrong != 0) {
            System.exit(1);
        }
    }

    private static void due(boolean holds, String fault) {
        if (!holds) {
            wrong++;
            System.out.println("rule " + fault);
        }
    }

    private static void fields(ClassTree type) {
        int ownFields = 0;
        for (Tree member : type.getMembers()) {
            due(!(member instanceof ClassTree), "1: a nested class");
            due(member.getKind() != Tree.Kind.BLOCK, "5: an initialiser");
            if (member instanceof VariableTree field) {
                Set<Modifier> modifiers = field.getModifiers().getFlags();
                String kind = field.getType().toString();
                if (modifiers.contains(Modifier.STATIC)) {
                    due(modifiers.contains(Modifier.FINAL), "5: " + field.getName() + " is no constant");
                    due(kind.equals("int") || kind.equals("long"), "5: " + field.getName() + " is neither int nor long");
                } else {
                    ownFields++;
                }
            }
        }
        due(ownFields <= FIELDS, "10: too many fields");
    }

    private static void methods(ClassTree type, CompilationUnitTree unit, SourcePositions positions) {
        LineMap lines = unit.getLineMap();
        Map<String, Set<String>> callees = new TreeMap<>();
        for (Tree member : type.getMembers()) {
            if (member instanceof MethodTree method) {
                String name = method.getName().toString();
                due(method.getParameters().size() <= PARAMETERS, "10: " + name + " has too many parameters");
                long first = lines.getLineNumber(positions.getStartPosition(unit, method));
                long last = lines.getLineNumber(positions.getEndPosition(unit, method));
                due(last - first < LONGEST, "10: " + name + " is too long");
                MethodBody body = new MethodBody(name);
                method.accept(body, null);
                due(!callees.containsKey(name), "1: " + name + " stands there twice");
                callees.put(name, body.called);
            }
        }
        for (String name : callees.keySet()) {
            follow(callees, name, new ArrayList<>());
        }
    }

    // Every way from call to call by the text alone, whether or not a run can take it.
    private static void follow(Map<String, Set<String>> callees, String name, List<String> above) {
        due(callees.containsKey(name), "3: " + name + " is no method of the class");
        due(!above.contains(name), "8: " + above + " comes back to " + name);
        if (above.contains(name) || !callees.containsKey(name)) {
            return;
        }
        List<String> way = new ArrayList<>(above);
        way.add(name);
        due(way.size() <= DEEPEST, "10: " + way + " goes more than six deep");
        for (String callee : callees.get(name)) {
            follow(callees, callee, way);
        }
    }

    private static final class Barred extends TreeScanner<Void, Void> {
        @Override
        public Void scan(Tree tree, Void none) {
            if (tree != null) {
                due(!BARRED.contains(tree.getKind()), "2, 3 or 6: " + tree);
            }
            return super.scan(tree, none);
        }

        @Override
        public Void visitVariable(VariableTree variable, Void none) {
            due(TYPES.contains(variable.getType().toString()), "2: " + variable);
            return super.visitVariable(variable, none);
        }

        // A dot leads to another class, but for an array's length and the object's own fields.
        @Override
        public Void visitMemberSelect(MemberSelectTree select, Void none) {
            boolean own = select.getExpression().toString().equals("this");
            due(own || select.getIdentifier().contentEquals("length"), "3: " + select);
            return super.visitMemberSelect(select, none);
        }
    }

    private static final class MethodBody extends TreeScanner<Void, Void> {
        private final String name;
        private final Set<String> called = new TreeSet<>();
        private int insideArguments = 0;

        private MethodBody(String name) {
            this.name = name;
        }

        @Override
        public Void scan(Tree tree, Void none) {
            boolean makesArray = tree != null && tree.getKind() == Tree.Kind.NEW_ARRAY;
            due(!makesArray || name.equals("<init>"), "4: " + name + " makes an array");
            return super.scan(tree, none);
        }

        @Override
        public Void visitMethodInvocation(MethodInvocationTree call, Void none) {
            String callee = call.getMethodSelect().toString();
            called.add(callee);
            due(insideArguments == 0, "10: " + callee + " stands in the arguments of another call");
            insideArguments++;
            for (ExpressionTree argument : call.getArguments()) {
                scan(argument, none);
            }
            insideArguments--;
            return null;
        }
    }
}
