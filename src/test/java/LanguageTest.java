import com.sun.source.tree.*;
import com.sun.source.util.JavacTask;
import com.sun.source.util.SourcePositions;
import com.sun.source.util.TreeScanner;
import com.sun.source.util.Trees;
import java.io.IOException;
import java.nio.file.Path;
import java.util.ArrayDeque;
import java.util.Deque;
import java.util.EnumSet;
import java.util.HashMap;
import java.util.HashSet;
import java.util.Map;
import java.util.Set;
import java.util.TreeSet;
import javax.lang.model.element.Modifier;
import javax.lang.model.type.TypeKind;
import javax.tools.JavaCompiler;
import javax.tools.StandardJavaFileManager;
import javax.tools.ToolProvider;

/** The source, as the compiler reads it, keeps to the rules of LANGUAGE.md that its form can tell. */
public final class LanguageTest extends TreeScanner<Void, Void> {
    private static final Set<Tree.Kind> FORBIDDEN = EnumSet.of(
        Tree.Kind.THROW, Tree.Kind.TRY, Tree.Kind.CATCH, Tree.Kind.SYNCHRONIZED, Tree.Kind.ASSERT,
        Tree.Kind.INSTANCE_OF, Tree.Kind.LAMBDA_EXPRESSION, Tree.Kind.MEMBER_REFERENCE, Tree.Kind.NEW_CLASS,
        Tree.Kind.NULL_LITERAL, Tree.Kind.STRING_LITERAL, Tree.Kind.FLOAT_LITERAL, Tree.Kind.DOUBLE_LITERAL,
        Tree.Kind.IMPORT, Tree.Kind.PACKAGE, Tree.Kind.INTERFACE, Tree.Kind.ENUM, Tree.Kind.RECORD,
        Tree.Kind.ANNOTATION, Tree.Kind.ENHANCED_FOR_LOOP, Tree.Kind.PARAMETERIZED_TYPE);

    private static int wrong = 0;

    private final CompilationUnitTree unit;
    private final SourcePositions positions;
    private final Set<String> arrays = new HashSet<>();
    private final Map<String, Set<String>> calls = new HashMap<>();
    private String method = "";
    private int fields = 0;
    private int classes = 0;
    private int argumentsAround = 0;

    private LanguageTest(CompilationUnitTree unit, SourcePositions positions) {
        this.unit = unit;
        this.positions = positions;
    }

    public static void main(String[] args) throws IOException {
        JavaCompiler compiler = ToolProvider.getSystemJavaCompiler();
        try (StandardJavaFileManager files = compiler.getStandardFileManager(null, null, null)) {
            var sources = files.getJavaFileObjects(Path.of("src/main/java/RankedObjects.java"));
            JavacTask task = (JavacTask) compiler.getTask(null, files, null, null, null, sources);
            SourcePositions positions = Trees.instance(task).getSourcePositions();
            for (CompilationUnitTree unit : task.parse()) {
                new LanguageTest(unit, positions).check();
            }
        }
        System.out.println(wrong == 0 ? "the language is as due" : wrong + " faults in the language");
        if (wrong != 0) {
            System.exit(1);
        }
    }

    private void check() {
        noteArrays();
        scan(unit, null);
        rule(1, classes == 1, "one class, not " + classes);
        rule(10, fields <= 40, "at most forty fields");
        for (String name : new TreeSet<>(calls.keySet())) {
            rule(3, calls.keySet().containsAll(calls.get(name)), name + " calls what is not of the class");
            int depth = depth(name, new ArrayDeque<>());
            rule(10, depth <= 6, name + " calls " + depth + " deep");
        }
    }

    private static void rule(int number, boolean kept, Object what) {
        if (!kept) {
            wrong++;
            System.out.println("rule " + number + ": " + what);
        }
    }

    /** By name, of fields, parameters and local variables alike. */
    private void noteArrays() {
        new TreeScanner<Void, Void>() {
            @Override
            public Void visitVariable(VariableTree tree, Void none) {
                if (tree.getType() instanceof ArrayTypeTree) {
                    arrays.add(tree.getName().toString());
                }
                return super.visitVariable(tree, none);
            }
        }.scan(unit, null);
    }

    /** How many methods stand on one another at most; a method that comes round to itself is a fault. */
    private int depth(String name, Deque<String> above) {
        if (above.contains(name)) {
            rule(8, false, name + " calls itself, by " + above);
            return 0;
        }
        above.push(name);
        int deepest = 0;
        for (String called : calls.getOrDefault(name, Set.of())) {
            deepest = Math.max(deepest, depth(called, above));
        }
        above.pop();
        return deepest + 1;
    }

    private long line(long position) {
        return unit.getLineMap().getLineNumber(position);
    }

    private String where(Tree tree) {
        return "line " + line(positions.getStartPosition(unit, tree)) + ": " + tree;
    }

    private static boolean isNumberType(Tree type) {
        Tree cell = type instanceof ArrayTypeTree array ? array.getType() : type;
        if (!(cell instanceof PrimitiveTypeTree primitive)) {
            return false;
        }
        TypeKind kind = primitive.getPrimitiveTypeKind();
        return kind != TypeKind.FLOAT && kind != TypeKind.DOUBLE && kind != TypeKind.VOID;
    }

    private boolean isArray(ExpressionTree tree) {
        String text = tree.toString();
        return arrays.contains(text.startsWith("this.") ? text.substring(5) : text);
    }

    @Override
    public Void scan(Tree tree, Void none) {
        if (tree != null) {
            rule(6, !FORBIDDEN.contains(tree.getKind()), where(tree));
        }
        return super.scan(tree, none);
    }

    @Override
    public Void visitClass(ClassTree tree, Void none) {
        classes++;
        for (Tree member : tree.getMembers()) {
            rule(5, !(member instanceof BlockTree), "an initialiser block");
            if (member instanceof VariableTree field) {
                checkField(field);
            }
        }
        return super.visitClass(tree, none);
    }

    private void checkField(VariableTree field) {
        Set<Modifier> flags = field.getModifiers().getFlags();
        if (!flags.contains(Modifier.STATIC)) {
            fields++;
            rule(1, flags.contains(Modifier.PRIVATE), where(field));
            return;
        }
        String type = field.getType().toString();
        rule(5, flags.contains(Modifier.FINAL) && (type.equals("int") || type.equals("long")), where(field));
        rule(5, field.getInitializer() != null, where(field));
    }

    @Override
    public Void visitVariable(VariableTree tree, Void none) {
        rule(2, isNumberType(tree.getType()), where(tree));
        return super.visitVariable(tree, none);
    }

    @Override
    public Void visitMethod(MethodTree tree, Void none) {
        method = tree.getName().toString();
        rule(1, calls.put(method, new TreeSet<>()) == null, "two methods named " + method);
        Tree answer = tree.getReturnType();
        boolean isVoid = answer != null && answer.toString().equals("void");
        boolean isNumber = answer instanceof PrimitiveTypeTree && isNumberType(answer);
        rule(4, answer == null || isVoid || isNumber, "answer of " + method);
        rule(10, tree.getParameters().size() <= 7, "parameters of " + method);
        long first = line(positions.getStartPosition(unit, tree));
        long last = line(positions.getEndPosition(unit, tree));
        rule(10, last - first < 60, "length of " + method);
        super.visitMethod(tree, none);
        method = "";
        return null;
    }

    @Override
    public Void visitMethodInvocation(MethodInvocationTree tree, Void none) {
        String name = tree.getMethodSelect().toString();
        rule(10, argumentsAround == 0, "a call among arguments, " + where(tree));
        if (name.equals("super")) {
            return null;
        }
        rule(3, tree.getMethodSelect() instanceof IdentifierTree, where(tree));
        calls.computeIfAbsent(method, m -> new TreeSet<>()).add(name);
        argumentsAround++;
        scan(tree.getArguments(), none);
        argumentsAround--;
        return null;
    }

    @Override
    public Void visitMemberSelect(MemberSelectTree tree, Void none) {
        boolean own = tree.getExpression().toString().equals("this");
        rule(3, own || tree.getIdentifier().contentEquals("length"), where(tree));
        return super.visitMemberSelect(tree, none);
    }

    @Override
    public Void visitNewArray(NewArrayTree tree, Void none) {
        rule(4, method.isEmpty(), "not in a field's initialiser, " + where(tree));
        rule(4, tree.getDimensions().size() == 1 && tree.getInitializers() == null, where(tree));
        for (ExpressionTree size : tree.getDimensions()) {
            rule(4, size.toString().matches("[1-9][0-9]*|[A-Z_]+"), where(tree));
        }
        return super.visitNewArray(tree, none);
    }

    @Override
    public Void visitAssignment(AssignmentTree tree, Void none) {
        rule(4, !isArray(tree.getVariable()), where(tree));
        return super.visitAssignment(tree, none);
    }

    @Override
    public Void visitBinary(BinaryTree tree, Void none) {
        rule(4, !isArray(tree.getLeftOperand()) && !isArray(tree.getRightOperand()), where(tree));
        if (tree.getKind() == Tree.Kind.DIVIDE || tree.getKind() == Tree.Kind.REMAINDER) {
            checkDivisor(tree.getRightOperand());
        }
        return super.visitBinary(tree, none);
    }

    @Override
    public Void visitCompoundAssignment(CompoundAssignmentTree tree, Void none) {
        if (tree.getKind() == Tree.Kind.DIVIDE_ASSIGNMENT || tree.getKind() == Tree.Kind.REMAINDER_ASSIGNMENT) {
            checkDivisor(tree.getExpression());
        }
        return super.visitCompoundAssignment(tree, none);
    }

    private void checkDivisor(ExpressionTree divisor) {
        rule(7, divisor.toString().matches("[1-9][0-9]*"), "a divisor that may be 0, " + where(divisor));
    }

    @Override
    public Void visitTypeCast(TypeCastTree tree, Void none) {
        rule(6, tree.getType() instanceof PrimitiveTypeTree && isNumberType(tree.getType()), where(tree));
        return super.visitTypeCast(tree, none);
    }

    @Override
    public Void visitForLoop(ForLoopTree tree, Void none) {
        boolean counted = tree.getUpdate().size() == 1 && tree.getCondition() != null;
        rule(8, counted, where(tree));
        if (counted) {
            String step = tree.getUpdate().get(0).toString();
            String counter = counter(tree.getCondition().toString());
            rule(8, step.equals(counter + "++;"), where(tree));
            rule(8, stepsOf(counter, tree.getStatement()) == 0, where(tree));
        }
        return super.visitForLoop(tree, none);
    }

    @Override
    public Void visitWhileLoop(WhileLoopTree tree, Void none) {
        String condition = tree.getCondition().toString();
        String counter = counter(condition.substring(1, condition.length() - 1));
        boolean counts = false;
        if (tree.getStatement() instanceof BlockTree body) {
            counts = body.getStatements().stream().anyMatch(s -> s.toString().equals(counter + "++;"));
        }
        rule(8, counts && stepsOf(counter, tree.getStatement()) == 1, where(tree));
        return super.visitWhileLoop(tree, none);
    }

    @Override
    public Void visitDoWhileLoop(DoWhileLoopTree tree, Void none) {
        rule(8, false, "a do loop, which this test cannot judge, " + where(tree));
        return super.visitDoWhileLoop(tree, none);
    }

    @Override
    public Void visitContinue(ContinueTree tree, Void none) {
        rule(8, false, "a continue, past which this test cannot see a counter, " + where(tree));
        return super.visitContinue(tree, none);
    }

    /** What stands first in a loop's condition, below a bound; without || no other part can outlast it. */
    private static String counter(String condition) {
        boolean below = condition.matches("\\w+ <=? .*") && !condition.contains("||") && !condition.contains("?");
        return below ? condition.replaceAll(" .*", "") : "no counter";
    }

    /** How often a loop's own lines give the counter a new value. */
    private static int stepsOf(String counter, Tree body) {
        int[] steps = {0};
        new TreeScanner<Void, Void>() {
            private void note(ExpressionTree variable) {
                steps[0] += variable.toString().equals(counter) ? 1 : 0;
            }

            @Override
            public Void visitAssignment(AssignmentTree tree, Void none) {
                note(tree.getVariable());
                return super.visitAssignment(tree, none);
            }

            @Override
            public Void visitCompoundAssignment(CompoundAssignmentTree tree, Void none) {
                note(tree.getVariable());
                return super.visitCompoundAssignment(tree, none);
            }

            @Override
            public Void visitUnary(UnaryTree tree, Void none) {
                String text = tree.toString();
                if (text.contains("++") || text.contains("--")) {
                    note(tree.getExpression());
                }
                return super.visitUnary(tree, none);
            }
        }.scan(body, null);
        return steps[0];
    }
}
