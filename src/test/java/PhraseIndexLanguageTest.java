import com.sun.source.tree.ArrayAccessTree;
import com.sun.source.tree.ArrayTypeTree;
import com.sun.source.tree.AssignmentTree;
import com.sun.source.tree.BinaryTree;
import com.sun.source.tree.ClassTree;
import com.sun.source.tree.CompilationUnitTree;
import com.sun.source.tree.CompoundAssignmentTree;
import com.sun.source.tree.ExpressionStatementTree;
import com.sun.source.tree.ExpressionTree;
import com.sun.source.tree.ForLoopTree;
import com.sun.source.tree.IdentifierTree;
import com.sun.source.tree.MemberSelectTree;
import com.sun.source.tree.MethodInvocationTree;
import com.sun.source.tree.MethodTree;
import com.sun.source.tree.NewArrayTree;
import com.sun.source.tree.PrimitiveTypeTree;
import com.sun.source.tree.StatementTree;
import com.sun.source.tree.Tree;
import com.sun.source.tree.Tree.Kind;
import com.sun.source.tree.TypeCastTree;
import com.sun.source.tree.UnaryTree;
import com.sun.source.tree.VariableTree;
import com.sun.source.util.JavacTask;
import com.sun.source.util.SourcePositions;
import com.sun.source.util.TreePath;
import com.sun.source.util.TreePathScanner;
import com.sun.source.util.TreeScanner;
import com.sun.source.util.Trees;
import java.io.IOException;
import java.nio.file.Path;
import java.util.EnumSet;
import java.util.HashMap;
import java.util.HashSet;
import java.util.LinkedHashSet;
import java.util.List;
import java.util.Map;
import java.util.Set;
import java.util.TreeSet;
import javax.lang.model.element.Modifier;
import javax.lang.model.type.TypeKind;
import javax.tools.JavaCompiler;
import javax.tools.StandardJavaFileManager;
import javax.tools.ToolProvider;

/**
 * Holds the class's source, or the one that is named as an argument, against the rules of
 * LANGUAGE.md that can be read off it: 1 to 6, 8 and 10. Rule 7 has PhraseIndexAnyCallTest;
 * rules 9 and 11 leave nothing to look for where no class of the library is used.
 *
 * It is narrower than the rules where the class needs no more: arrays are made in fields'
 * initialisers alone, no variable but a field or a parameter names an array, every loop is a for
 * with its own counter, and a call's or a field's name stands alone, without "this." before it.
 */
public final class PhraseIndexLanguageTest extends TreePathScanner<Void, Void> {
    private static final Set<TypeKind> NUMBERS = EnumSet.of(TypeKind.INT, TypeKind.LONG, TypeKind.SHORT,
        TypeKind.BYTE, TypeKind.CHAR, TypeKind.BOOLEAN);
    private static final Map<Integer, Set<Kind>> FORBIDDEN = Map.of(
        1, EnumSet.of(Kind.PACKAGE),
        2, EnumSet.of(Kind.STRING_LITERAL, Kind.FLOAT_LITERAL, Kind.DOUBLE_LITERAL),
        3, EnumSet.of(Kind.IMPORT, Kind.ANNOTATION),
        4, EnumSet.of(Kind.NEW_CLASS, Kind.NULL_LITERAL),
        6, EnumSet.of(Kind.THROW, Kind.TRY, Kind.CATCH, Kind.SYNCHRONIZED, Kind.ASSERT, Kind.INSTANCE_OF,
            Kind.LAMBDA_EXPRESSION, Kind.MEMBER_REFERENCE),
        8, EnumSet.of(Kind.WHILE_LOOP, Kind.DO_WHILE_LOOP, Kind.ENHANCED_FOR_LOOP));
    private static final Set<Kind> COMPARISONS = EnumSet.of(Kind.LESS_THAN, Kind.LESS_THAN_EQUAL,
        Kind.GREATER_THAN, Kind.GREATER_THAN_EQUAL);
    private static final Set<Kind> STEPS = EnumSet.of(Kind.POSTFIX_INCREMENT, Kind.PREFIX_INCREMENT,
        Kind.POSTFIX_DECREMENT, Kind.PREFIX_DECREMENT);
    private static final Set<Kind> CONSTANT_PARTS = EnumSet.of(Kind.INT_LITERAL, Kind.LONG_LITERAL,
        Kind.IDENTIFIER, Kind.UNARY_MINUS, Kind.PLUS, Kind.MINUS, Kind.MULTIPLY, Kind.PARENTHESIZED);
    private static final int MOST_PARAMETERS = 7;
    private static final int MOST_LINES = 60;
    private static final int MOST_FIELDS = 40;
    private static final int MOST_DEPTH = 6;

    private final Map<String, Set<String>> calls = new HashMap<>();
    private final Set<String> constants = new HashSet<>();
    private final Set<String> arrayFields = new HashSet<>();
    private final CompilationUnitTree unit;
    private final SourcePositions positions;
    private String method = "";
    private int wrong = 0;

    private PhraseIndexLanguageTest(CompilationUnitTree unit, SourcePositions positions) {
        this.unit = unit;
        this.positions = positions;
    }

    public static void main(String[] args) throws IOException {
        Path source = Path.of(args.length > 0 ? args[0] : "src/main/java/PhraseIndex.java");
        JavaCompiler compiler = ToolProvider.getSystemJavaCompiler();
        try (StandardJavaFileManager files = compiler.getStandardFileManager(null, null, null)) {
            JavacTask task = (JavacTask) compiler.getTask(null, files, null, List.of("-proc:none"), null,
                files.getJavaFileObjects(source));
            CompilationUnitTree unit = task.parse().iterator().next();
            PhraseIndexLanguageTest test =
                new PhraseIndexLanguageTest(unit, Trees.instance(task).getSourcePositions());
            test.hold();
            System.out.println(test.wrong == 0 ? "the class keeps to the language" : test.wrong + " faults");
            if (test.wrong != 0) {
                System.exit(1);
            }
        }
    }

    private void fault(int rule, Tree at, String what) {
        wrong++;
        System.out.println("rule " + rule + ", line " + line(positions.getStartPosition(unit, at)) + ": " + what);
    }

    private long line(long position) {
        return unit.getLineMap().getLineNumber(position);
    }

    private void hold() {
        if (unit.getTypeDecls().size() != 1 || unit.getTypeDecls().get(0).getKind() != Kind.CLASS) {
            fault(1, unit, "not one class");
            return;
        }
        ClassTree type = (ClassTree) unit.getTypeDecls().get(0);
        holdMembers(type);
        scan(new TreePath(unit), null);
        for (String name : calls.keySet()) {
            holdDepth(name, new LinkedHashSet<>(), type);
        }
    }

    private void holdMembers(ClassTree type) {
        Set<String> shown = new HashSet<>();
        int fields = 0;
        for (Tree member : type.getMembers()) {
            if (member instanceof MethodTree declared) {
                calls.put(declared.getName().toString(), new TreeSet<>());
                if (declared.getModifiers().getFlags().contains(Modifier.PUBLIC)) {
                    shown.add(declared.getName().toString());
                }
            } else if (member instanceof VariableTree field) {
                boolean constant = field.getModifiers().getFlags().contains(Modifier.STATIC);
                fields += constant ? 0 : 1;
                holdField(field, constant);
            } else {
                fault(1, member, "neither a method nor a field: " + member.getKind());
            }
        }
        for (Tree member : type.getMembers()) {
            if (member instanceof MethodTree declared && !declared.getModifiers().getFlags().contains(Modifier.PUBLIC)
                && shown.contains(declared.getName().toString())) {
                fault(1, member, "a private method with a public one's name: " + declared.getName());
            }
        }
        if (fields > MOST_FIELDS) {
            fault(10, type, fields + " fields");
        }
    }

    private void holdField(VariableTree field, boolean isStatic) {
        if (field.getType() instanceof ArrayTypeTree) {
            arrayFields.add(field.getName().toString());
        }
        if (!isStatic) {
            return;
        }
        String type = field.getType().toString();
        boolean isFinal = field.getModifiers().getFlags().contains(Modifier.FINAL);
        if (!isFinal || !type.equals("int") && !type.equals("long") || !isConstant(field.getInitializer())) {
            fault(5, field, "a static field that is no constant of int or long: " + field.getName());
        }
        constants.add(field.getName().toString());
    }

    /** Only names that were declared above as constants count as such. */
    private boolean isConstant(Tree value) {
        if (value == null) {
            return false;
        }
        boolean[] constant = {true};
        new TreeScanner<Void, Void>() {
            @Override
            public Void scan(Tree part, Void none) {
                if (part != null) {
                    boolean unknown = part instanceof IdentifierTree && !constants.contains(part.toString());
                    constant[0] &= CONSTANT_PARTS.contains(part.getKind()) && !unknown;
                }
                return super.scan(part, none);
            }
        }.scan(value, null);
        return constant[0];
    }

    @Override
    public Void scan(Tree part, Void none) {
        FORBIDDEN.forEach((rule, kinds) -> {
            if (part != null && kinds.contains(part.getKind())) {
                fault(rule, part, "not of the language, or not needed: " + part.getKind());
            }
        });
        return super.scan(part, none);
    }

    @Override
    public Void visitClass(ClassTree type, Void none) {
        if (getCurrentPath().getParentPath().getLeaf() != unit) {
            fault(1, type, "a nested class");
        }
        if (type.getExtendsClause() != null || !type.getImplementsClause().isEmpty()) {
            fault(3, type, "another class");
        }
        return super.visitClass(type, none);
    }

    @Override
    public Void visitMethod(MethodTree declared, Void none) {
        method = declared.getName().toString();
        if (declared.getReturnType() != null && !isNumber(declared.getReturnType(), true)) {
            fault(4, declared, "answers what is no number: " + method);
        }
        if (declared.getParameters().size() > MOST_PARAMETERS) {
            fault(10, declared, "too many parameters: " + method);
        }
        long first = line(positions.getStartPosition(unit, declared));
        long last = line(positions.getEndPosition(unit, declared));
        if (last - first + 1 > MOST_LINES) {
            fault(10, declared, "too long: " + method);
        }
        super.visitMethod(declared, none);
        method = "";
        return null;
    }

    private static boolean isNumber(Tree type, boolean orVoid) {
        return type instanceof PrimitiveTypeTree primitive
            && (NUMBERS.contains(primitive.getPrimitiveTypeKind())
            || orVoid && primitive.getPrimitiveTypeKind() == TypeKind.VOID);
    }

    @Override
    public Void visitVariable(VariableTree variable, Void none) {
        Tree owner = getCurrentPath().getParentPath().getLeaf();
        boolean array = variable.getType() instanceof ArrayTypeTree type && isNumber(type.getType(), false);
        if (!array && !isNumber(variable.getType(), false)) {
            fault(2, variable, "its type is no number or array of them: " + variable.getName());
        }
        if (array && !(owner instanceof ClassTree) && !(owner instanceof MethodTree)) {
            fault(4, variable, "a local variable that names an array: " + variable.getName());
        }
        return super.visitVariable(variable, none);
    }

    @Override
    public Void visitNewArray(NewArrayTree made, Void none) {
        TreePath owner = getCurrentPath().getParentPath();
        boolean ofField = owner.getLeaf() instanceof VariableTree field && field.getInitializer() == made
            && owner.getParentPath().getLeaf() instanceof ClassTree;
        boolean ofConstantLength = made.getDimensions().size() == 1 && isConstant(made.getDimensions().get(0));
        if (!ofField || !ofConstantLength || made.getInitializers() != null) {
            fault(4, made, "an array that is not made by a field, once, with a constant length");
        }
        return super.visitNewArray(made, none);
    }

    @Override
    public Void visitAssignment(AssignmentTree assignment, Void none) {
        if (arrayFields.contains(assignment.getVariable().toString())) {
            fault(4, assignment, "an array field is assigned to: " + assignment);
        }
        return super.visitAssignment(assignment, none);
    }

    @Override
    public Void visitBinary(BinaryTree both, Void none) {
        if (arrayFields.contains(both.getLeftOperand().toString())
            || arrayFields.contains(both.getRightOperand().toString())) {
            fault(4, both, "an array is compared: " + both);
        }
        return super.visitBinary(both, none);
    }

    @Override
    public Void visitMemberSelect(MemberSelectTree member, Void none) {
        fault(3, member, "a member of something else: " + member);
        return super.visitMemberSelect(member, none);
    }

    @Override
    public Void visitTypeCast(TypeCastTree cast, Void none) {
        if (!isNumber(cast.getType(), false)) {
            fault(6, cast, "a cast of a reference");
        }
        return super.visitTypeCast(cast, none);
    }

    @Override
    public Void visitMethodInvocation(MethodInvocationTree call, Void none) {
        String name = call.getMethodSelect().toString();
        // The compiler itself begins a constructor with a call of super.
        if (method.equals("<init>") && name.equals("super")) {
            return null;
        }
        if (!calls.containsKey(name)) {
            fault(3, call, "a call of what is not the class's own: " + name);
        } else if (calls.containsKey(method)) {
            calls.get(method).add(name);
        }
        for (ExpressionTree argument : call.getArguments()) {
            holdArgument(argument);
        }
        return super.visitMethodInvocation(call, none);
    }

    private void holdArgument(ExpressionTree argument) {
        new TreeScanner<Void, Void>() {
            @Override
            public Void visitMethodInvocation(MethodInvocationTree inner, Void none) {
                fault(10, inner, "a call inside the arguments of another: " + inner);
                return null;
            }
        }.scan(argument, null);
    }

    /** A for whose condition holds its counter against a bound, and whose body leaves both alone. */
    @Override
    public Void visitForLoop(ForLoopTree loop, Void none) {
        String counter = counter(loop);
        if (counter.isEmpty()) {
            fault(8, loop, "a loop without a counter against a bound");
            return super.visitForLoop(loop, none);
        }
        Set<String> fixed = names(((BinaryTree) loop.getCondition()).getRightOperand());
        fixed.add(counter);
        new TreeScanner<Void, Void>() {
            @Override
            public Void visitAssignment(AssignmentTree assignment, Void nothing) {
                holdSet(assignment, assignment.getVariable());
                return super.visitAssignment(assignment, nothing);
            }

            @Override
            public Void visitCompoundAssignment(CompoundAssignmentTree assignment, Void nothing) {
                holdSet(assignment, assignment.getVariable());
                return super.visitCompoundAssignment(assignment, nothing);
            }

            @Override
            public Void visitUnary(UnaryTree step, Void nothing) {
                if (STEPS.contains(step.getKind())) {
                    holdSet(step, step.getExpression());
                }
                return super.visitUnary(step, nothing);
            }

            private void holdSet(Tree at, ExpressionTree variable) {
                Tree named = variable instanceof ArrayAccessTree element ? element.getExpression() : variable;
                if (fixed.contains(named.toString())) {
                    fault(8, at, "a loop's body sets its counter or its bound: " + at);
                }
            }
        }.scan(loop.getStatement(), null);
        return super.visitForLoop(loop, none);
    }

    private static Set<String> names(Tree part) {
        Set<String> names = new HashSet<>();
        new TreeScanner<Void, Void>() {
            @Override
            public Void visitIdentifier(IdentifierTree name, Void nothing) {
                names.add(name.getName().toString());
                return null;
            }
        }.scan(part, null);
        return names;
    }

    /** The name of the loop's counter, "" when the loop has another form. */
    private static String counter(ForLoopTree loop) {
        List<? extends StatementTree> starts = loop.getInitializer();
        List<? extends ExpressionStatementTree> steps = loop.getUpdate();
        if (starts.size() != 1 || steps.size() != 1 || !(starts.get(0) instanceof VariableTree start)
            || !(loop.getCondition() instanceof BinaryTree condition)
            || !(steps.get(0).getExpression() instanceof UnaryTree step)) {
            return "";
        }
        String name = start.getName().toString();
        boolean up = step.getKind() == Kind.POSTFIX_INCREMENT || step.getKind() == Kind.PREFIX_INCREMENT;
        boolean below = condition.getKind() == Kind.LESS_THAN || condition.getKind() == Kind.LESS_THAN_EQUAL;
        boolean towardsBound = COMPARISONS.contains(condition.getKind()) && STEPS.contains(step.getKind())
            && up == below;
        boolean same = condition.getLeftOperand().toString().equals(name)
            && step.getExpression().toString().equals(name);
        return towardsBound && same ? name : "";
    }

    /** Follows the calls from a method, so that a recursion shows as one that is under way already. */
    private void holdDepth(String name, Set<String> underWay, ClassTree type) {
        if (!underWay.add(name)) {
            fault(8, type, "recursion: " + underWay + " back to " + name);
            return;
        }
        if (underWay.size() > MOST_DEPTH) {
            fault(10, type, "calls go too deep: " + underWay);
        } else {
            for (String called : calls.get(name)) {
                holdDepth(called, underWay, type);
            }
        }
        underWay.remove(name);
    }
}
