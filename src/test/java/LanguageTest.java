import com.sun.source.tree.*;
import com.sun.source.util.JavacTask;
import com.sun.source.util.SourcePositions;
import com.sun.source.util.TreeScanner;
import com.sun.source.util.Trees;
import java.io.File;
import java.util.EnumSet;
import java.util.HashSet;
import java.util.Map;
import java.util.Set;
import java.util.TreeMap;
import java.util.TreeSet;
import javax.lang.model.element.Modifier;
import javax.tools.JavaCompiler;
import javax.tools.StandardJavaFileManager;
import javax.tools.ToolProvider;

// The rules of LANGUAGE.md that can be read off the source. That no index is out of bounds and that every loop ends at a
// bound (7, 8) is not shown here; LongUseTest looks for it.
public final class LanguageTest {
    private static final String SOURCE = "src/main/java/GraphWire.java";
    private static final Set<Tree.Kind> FORBIDDEN = EnumSet.of(
        Tree.Kind.THROW, Tree.Kind.TRY, Tree.Kind.CATCH, Tree.Kind.SYNCHRONIZED, Tree.Kind.ASSERT, Tree.Kind.INSTANCE_OF,
        Tree.Kind.LAMBDA_EXPRESSION, Tree.Kind.MEMBER_REFERENCE, Tree.Kind.NEW_CLASS, Tree.Kind.NULL_LITERAL,
        Tree.Kind.STRING_LITERAL, Tree.Kind.FLOAT_LITERAL, Tree.Kind.DOUBLE_LITERAL, Tree.Kind.MEMBER_SELECT,
        Tree.Kind.ENHANCED_FOR_LOOP, Tree.Kind.INTERFACE, Tree.Kind.ENUM, Tree.Kind.RECORD, Tree.Kind.ANNOTATION);

    private static int wrong = 0;
    private static CompilationUnitTree unit;
    private static SourcePositions positions;

    private static final Set<String> methods = new HashSet<>();
    private static final Set<String> constants = new HashSet<>();
    private static final Set<String> arrayFields = new HashSet<>();
    private static final Map<String, Set<String>> calls = new TreeMap<>();

    private static long line(long position) {
        return unit.getLineMap().getLineNumber(position);
    }

    private static void tell(int rule, Tree at, String what) {
        wrong++;
        System.out.println(SOURCE + ":" + line(positions.getStartPosition(unit, at)) + ": rule " + rule + ": " + what);
    }

    public static void main(String[] args) throws Exception {
        JavaCompiler compiler = ToolProvider.getSystemJavaCompiler();
        try (StandardJavaFileManager files = compiler.getStandardFileManager(null, null, null)) {
            JavacTask task = (JavacTask) compiler.getTask(null, files, null, null, null, files.getJavaFileObjects(new File(SOURCE)));
            unit = task.parse().iterator().next();
            positions = Trees.instance(task).getSourcePositions();
            checkUnit();
        }
        System.out.println(wrong == 0 ? "the language is as due" : wrong + " places are outside the language");
        if (wrong != 0) {
            System.exit(1);
        }
    }

    private static void checkUnit() {
        if (unit.getPackageName() != null || !unit.getImports().isEmpty() || unit.getTypeDecls().size() != 1) {
            tell(1, unit, "a package line, an import or a second class");
        }
        ClassTree program = (ClassTree) unit.getTypeDecls().get(0);
        int fields = 0;
        for (Tree member : program.getMembers()) {
            if (member instanceof MethodTree) {
                if (!methods.add(((MethodTree) member).getName().toString())) {
                    tell(1, member, "a second method of this name");
                }
            } else if (member instanceof VariableTree) {
                fields += noteField((VariableTree) member);
            } else {
                tell(1, member, "neither a method nor a field");
            }
        }
        if (fields > 40) {
            tell(10, program, fields + " fields");
        }
        for (Tree member : program.getMembers()) {
            new Rules(member instanceof MethodTree ? (MethodTree) member : null).scan(member, null);
        }
        for (String method : methods) {
            checkDepth(method, 1, new TreeSet<>(), program);
        }
    }

    private static int noteField(VariableTree field) {
        String name = field.getName().toString();
        String type = field.getType().toString();
        if (field.getModifiers().getFlags().contains(Modifier.STATIC)) {
            constants.add(name);
            if (!field.getModifiers().getFlags().contains(Modifier.FINAL) || !type.equals("int") && !type.equals("long")) {
                tell(5, field, "a static field that is no constant of int or long");
            }
            return 0;
        }
        if (type.endsWith("[]")) {
            arrayFields.add(name);
        }
        return 1;
    }

    private static void checkDepth(String method, int depth, Set<String> above, Tree at) {
        if (!above.add(method)) {
            tell(8, at, "recursion: " + above);
            return;
        }
        if (depth > 6) {
            tell(10, at, "calls go deeper than six: " + above);
        }
        for (String next : calls.getOrDefault(method, Set.of())) {
            checkDepth(next, depth + 1, new TreeSet<>(above), at);
        }
    }

    private static final class Rules extends TreeScanner<Void, Void> {
        private final MethodTree method;
        private int argumentsAround = 0;

        Rules(MethodTree method) {
            this.method = method;
        }

        @Override
        public Void scan(Tree tree, Void nothing) {
            if (tree != null && FORBIDDEN.contains(tree.getKind())) {
                tell(6, tree, "not in the language: " + tree.getKind());
            }
            return super.scan(tree, nothing);
        }

        @Override
        public Void visitMethod(MethodTree tree, Void nothing) {
            if (tree.getParameters().size() > 7) {
                tell(10, tree, "more than seven parameters");
            }
            if (tree.getReturnType() != null && tree.getReturnType().getKind() != Tree.Kind.PRIMITIVE_TYPE) {
                tell(4, tree, "answers " + tree.getReturnType());
            }
            long lines = line(positions.getEndPosition(unit, tree)) - line(positions.getStartPosition(unit, tree)) + 1;
            if (lines > 60) {
                tell(10, tree, lines + " lines");
            }
            return super.visitMethod(tree, nothing);
        }

        @Override
        public Void visitVariable(VariableTree tree, Void nothing) {
            String type = String.valueOf(tree.getType());
            if (!type.matches("(int|long|short|byte|char|boolean)(\\[\\])?")) {
                tell(2, tree, "type " + type);
            }
            return super.visitVariable(tree, nothing);
        }

        @Override
        public Void visitNewArray(NewArrayTree tree, Void nothing) {
            boolean plain = tree.getInitializers() == null && tree.getDimensions().size() == 1
                && (tree.getDimensions().get(0).getKind() == Tree.Kind.INT_LITERAL || constants.contains(tree.getDimensions().get(0).toString()));
            if (method != null || !plain) {
                tell(4, tree, "an array outside a field's initialiser, or without a constant length");
            }
            return super.visitNewArray(tree, nothing);
        }

        @Override
        public Void visitAssignment(AssignmentTree tree, Void nothing) {
            if (arrayFields.contains(tree.getVariable().toString())) {
                tell(4, tree, "an array field is assigned to");
            }
            return super.visitAssignment(tree, nothing);
        }

        @Override
        public Void visitBinary(BinaryTree tree, Void nothing) {
            if (arrayFields.contains(tree.getLeftOperand().toString()) || arrayFields.contains(tree.getRightOperand().toString())) {
                tell(4, tree, "an array is compared");
            }
            return super.visitBinary(tree, nothing);
        }

        @Override
        public Void visitForLoop(ForLoopTree tree, Void nothing) {
            if (tree.getCondition() == null || tree.getInitializer().isEmpty() || tree.getUpdate().isEmpty()) {
                tell(8, tree, "a loop without a counter against a bound");
            }
            return super.visitForLoop(tree, nothing);
        }

        @Override
        public Void visitWhileLoop(WhileLoopTree tree, Void nothing) {
            tell(8, tree, "this project keeps to for, where the counter is seen at once");
            return super.visitWhileLoop(tree, nothing);
        }

        @Override
        public Void visitDoWhileLoop(DoWhileLoopTree tree, Void nothing) {
            tell(8, tree, "this project keeps to for, where the counter is seen at once");
            return super.visitDoWhileLoop(tree, nothing);
        }

        @Override
        public Void visitMethodInvocation(MethodInvocationTree tree, Void nothing) {
            String called = tree.getMethodSelect().toString();
            if (called.equals("super")) {
                return null;
            }
            if (argumentsAround > 0) {
                tell(10, tree, "a call inside the arguments of another call");
            }
            if (!methods.contains(called)) {
                tell(3, tree, "a method that is not the program's own: " + called);
            } else if (method != null) {
                calls.computeIfAbsent(method.getName().toString(), key -> new TreeSet<>()).add(called);
            }
            argumentsAround++;
            scan(tree.getArguments(), nothing);
            argumentsAround--;
            return null;
        }
    }
}
