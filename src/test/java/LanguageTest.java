import com.sun.source.tree.*;
import com.sun.source.tree.Tree.Kind;
import com.sun.source.util.JavacTask;
import com.sun.source.util.SourcePositions;
import com.sun.source.util.TreeScanner;
import com.sun.source.util.Trees;
import java.io.File;
import java.io.IOException;
import java.util.ArrayList;
import java.util.HashMap;
import java.util.HashSet;
import java.util.List;
import java.util.Map;
import java.util.Set;
import java.util.TreeSet;
import javax.lang.model.element.Modifier;
import javax.lang.model.type.TypeKind;
import javax.tools.JavaCompiler;
import javax.tools.StandardJavaFileManager;
import javax.tools.ToolProvider;

/**
 * RowOrders.java keeps to the rules of ../shared/LANGUAGE.md, as far as its syntax tells.
 * Where a rule is hard to see in the syntax, a narrower one that the class keeps to stands
 * for it: arrays come of fields' initialisers alone, loops are for loops that count, nothing
 * is selected with a dot, and a divisor is a literal or counts up from one.
 */
public final class LanguageTest {
    private static final String SOURCE = "src/main/java/RowOrders.java";
    private static final int MOST_PARAMETERS = 7;
    private static final int MOST_LINES = 60;
    private static final int MOST_DEPTH = 6;
    private static final int MOST_FIELDS = 40;
    private static final Set<TypeKind> NUMBERS_AND_BOOLEAN = Set.of(TypeKind.INT, TypeKind.LONG,
            TypeKind.SHORT, TypeKind.BYTE, TypeKind.CHAR, TypeKind.BOOLEAN);
    private static final Set<Kind> LITERALS = Set.of(Kind.INT_LITERAL, Kind.LONG_LITERAL,
            Kind.CHAR_LITERAL, Kind.BOOLEAN_LITERAL);
    private static final Set<Kind> DIVISIONS = Set.of(Kind.DIVIDE, Kind.REMAINDER,
            Kind.DIVIDE_ASSIGNMENT, Kind.REMAINDER_ASSIGNMENT);
    private static final Set<Kind> COUNTING = Set.of(Kind.POSTFIX_INCREMENT, Kind.POSTFIX_DECREMENT,
            Kind.PREFIX_INCREMENT, Kind.PREFIX_DECREMENT);
    private static final List<Class<? extends Tree>> RULED_OUT = List.of(ThrowTree.class, TryTree.class,
            SynchronizedTree.class, AssertTree.class, InstanceOfTree.class, LambdaExpressionTree.class,
            MemberReferenceTree.class, NewClassTree.class);

    private static final Check CHECK = new Check();

    private final CompilationUnitTree unit;
    private final SourcePositions positions;
    private final ClassTree type;
    private final List<MethodTree> methods = new ArrayList<>();
    private final List<VariableTree> fields = new ArrayList<>();
    private final Map<String, Set<String>> calls = new HashMap<>();

    private LanguageTest(CompilationUnitTree unit, SourcePositions positions) {
        this.unit = unit;
        this.positions = positions;
        type = (ClassTree) unit.getTypeDecls().get(0);
        for (Tree member : type.getMembers()) {
            if (member instanceof MethodTree) {
                methods.add((MethodTree) member);
            } else if (member instanceof VariableTree) {
                fields.add((VariableTree) member);
            }
        }
        for (MethodTree method : methods) {
            Set<String> called = calls.computeIfAbsent(method.getName().toString(), name -> new TreeSet<>());
            for (MethodInvocationTree call : all(MethodInvocationTree.class, method)) {
                called.add(call.getMethodSelect().toString());
            }
        }
    }

    public static void main(String[] args) throws IOException {
        JavaCompiler compiler = ToolProvider.getSystemJavaCompiler();
        try (StandardJavaFileManager files = compiler.getStandardFileManager(null, null, null)) {
            JavacTask task = (JavacTask) compiler.getTask(null, files, null, List.of("--release", "17"), null,
                    files.getJavaFileObjects(new File(SOURCE)));
            CompilationUnitTree unit = task.parse().iterator().next();
            LanguageTest test = new LanguageTest(unit, Trees.instance(task).getSourcePositions());
            CHECK.part(test::oneClass);
            CHECK.part(test::types);
            CHECK.part(test::noLibrary);
            CHECK.part(test::arraysMade);
            CHECK.part(test::arraysUsed);
            CHECK.part(test::staticFields);
            CHECK.part(test::ruledOut);
            CHECK.part(test::divisors);
            CHECK.part(test::noRecursion);
            CHECK.part(test::loops);
            CHECK.part(test::sizes);
            CHECK.part(test::noCallInArguments);
        }
        CHECK.end();
    }

    private void oneClass() {
        CHECK.sentence("rule 1: one class, public and final, without a package line");
        keeps("no package", unit.getPackage() == null);
        keeps("no other class", all(ClassTree.class, unit).size() == 1);
        keeps("class", type.getKind() == Kind.CLASS && type.getSimpleName().contentEquals("RowOrders"));
        keeps("public final", type.getModifiers().getFlags().equals(Set.of(Modifier.PUBLIC, Modifier.FINAL)));
        keeps("no other type over it", type.getExtendsClause() == null && type.getImplementsClause().isEmpty());
        CHECK.sentence("rule 1: No private method bears the name of a public one");
        Set<String> publicNames = new TreeSet<>();
        for (MethodTree method : methods) {
            if (!isPrivate(method)) {
                publicNames.add(method.getName().toString());
            }
        }
        for (MethodTree method : methods) {
            keeps(method.getName(), !isPrivate(method) || !publicNames.contains(method.getName().toString()));
        }
    }

    private void types() {
        CHECK.sentence("rule 2: whole numbers, boolean, and one-dimensional arrays of these");
        for (VariableTree variable : all(VariableTree.class, unit)) {
            Tree kind = variable.getType();
            boolean isArray = kind instanceof ArrayTypeTree;
            keeps(variable, isNumberOrBoolean(isArray ? ((ArrayTypeTree) kind).getType() : kind));
        }
        for (MethodTree method : methods) {
            Tree answer = method.getReturnType();
            boolean answersNothing = answer == null || answer.toString().equals("void");
            keeps(method.getName(), answersNothing || isNumberOrBoolean(answer));
        }
        for (LiteralTree literal : all(LiteralTree.class, unit)) {
            keeps(literal, LITERALS.contains(literal.getKind()));
        }
        for (TypeCastTree cast : all(TypeCastTree.class, unit)) {
            keeps(cast, isNumberOrBoolean(cast.getType()));
        }
    }

    private void noLibrary() {
        CHECK.sentence("rule 3: no class of the Java library, nothing imported, none of Object's methods");
        keeps("no import", unit.getImports().isEmpty());
        for (MemberSelectTree select : all(MemberSelectTree.class, unit)) {
            keeps(select, false);
        }
        for (MethodInvocationTree call : all(MethodInvocationTree.class, unit)) {
            keeps(call, calls.containsKey(call.getMethodSelect().toString()));
        }
    }

    private void arraysMade() {
        CHECK.sentence("rule 4: each array is made once, with a length that is a literal or a constant");
        Set<Tree> madeByFields = new HashSet<>();
        for (VariableTree field : fields) {
            if (isArray(field)) {
                keeps(field, field.getInitializer() instanceof NewArrayTree);
                keeps(field, isFinal(field));
                madeByFields.add(field.getInitializer());
            }
        }
        for (NewArrayTree made : all(NewArrayTree.class, unit)) {
            keeps(made, madeByFields.contains(made));
            keeps(made, made.getInitializers() == null && made.getDimensions().size() == 1);
            keeps(made, constant(made.getDimensions().get(0)) >= 1);
        }
    }

    private void arraysUsed() {
        CHECK.sentence("rule 4: an array is indexed or handed to a private method, and nothing else");
        for (MethodTree method : methods) {
            Set<String> arrays = new TreeSet<>();
            for (VariableTree variable : all(VariableTree.class, method)) {
                boolean isParameter = method.getParameters().contains(variable);
                keeps(variable, !isArray(variable) || isParameter && isPrivate(method));
                if (isArray(variable)) {
                    arrays.add(variable.getName().toString());
                }
            }
            for (VariableTree field : fields) {
                if (isArray(field)) {
                    arrays.add(field.getName().toString());
                }
            }
            Set<Tree> fine = new HashSet<>();
            for (ArrayAccessTree access : all(ArrayAccessTree.class, method)) {
                fine.add(access.getExpression());
            }
            for (MethodInvocationTree call : all(MethodInvocationTree.class, method)) {
                if (method.getReturnType() != null) {
                    fine.addAll(call.getArguments());
                }
            }
            for (IdentifierTree name : all(IdentifierTree.class, method)) {
                keeps(method.getName() + ": " + name,
                        !arrays.contains(name.getName().toString()) || fine.contains(name) || isNumberHere(method, name));
            }
        }
    }

    private void staticFields() {
        CHECK.sentence("rule 5: static fields are constants of int or long, and there is no static initialiser");
        for (VariableTree field : fields) {
            if (isStatic(field)) {
                Kind kind = field.getInitializer() == null ? Kind.OTHER : field.getInitializer().getKind();
                keeps(field, Set.of("int", "long").contains(field.getType().toString()));
                keeps(field, isFinal(field));
                keeps(field, kind == Kind.INT_LITERAL || kind == Kind.LONG_LITERAL || kind == Kind.UNARY_MINUS);
            }
        }
        for (Tree member : type.getMembers()) {
            keeps("initialiser", !(member instanceof BlockTree));
        }
    }

    private void ruledOut() {
        CHECK.sentence("rule 6: no throw, try, synchronized, assert, instanceof, lambda or method reference");
        for (Class<? extends Tree> kind : RULED_OUT) {
            keeps(kind.getSimpleName(), all(kind, unit).isEmpty());
        }
        for (MethodTree method : methods) {
            keeps(method.getName(), method.getThrows().isEmpty());
            keeps(method.getName(), !method.getModifiers().getFlags().contains(Modifier.SYNCHRONIZED));
        }
    }

    private void divisors() {
        CHECK.sentence("rule 7: a divisor is looked at before it divides");
        for (MethodTree method : methods) {
            Set<String> fromOneUp = new TreeSet<>();
            for (ForLoopTree loop : all(ForLoopTree.class, method)) {
                if (countsUp(loop) && constant(counter(loop).getInitializer()) >= 1) {
                    fromOneUp.add(counter(loop).getName().toString());
                }
            }
            for (BinaryTree division : all(BinaryTree.class, method)) {
                if (DIVISIONS.contains(division.getKind())) {
                    keeps(division, isNeverZero(division.getRightOperand(), fromOneUp));
                }
            }
            for (CompoundAssignmentTree division : all(CompoundAssignmentTree.class, method)) {
                if (DIVISIONS.contains(division.getKind())) {
                    keeps(division, isNeverZero(division.getExpression(), fromOneUp));
                }
            }
        }
    }

    private void noRecursion() {
        CHECK.sentence("rule 8: No recursion, and rule 10: calls go at most six deep");
        for (String name : calls.keySet()) {
            keeps(name, depth(name, 1) <= MOST_DEPTH);
        }
    }

    private void loops() {
        CHECK.sentence("rule 8: every loop has an end that can be seen from its own lines");
        keeps("no while", all(WhileLoopTree.class, unit).isEmpty());
        keeps("no do", all(DoWhileLoopTree.class, unit).isEmpty());
        keeps("no for each", all(EnhancedForLoopTree.class, unit).isEmpty());
        for (ForLoopTree loop : all(ForLoopTree.class, unit)) {
            keeps(head(loop), countsUp(loop) || countsDown(loop));
            Set<String> fixed = new TreeSet<>();
            for (IdentifierTree name : all(IdentifierTree.class, loop.getCondition())) {
                fixed.add(name.getName().toString());
            }
            keeps(head(loop), all(MethodInvocationTree.class, loop.getCondition()).isEmpty());
            keeps(head(loop), all(ArrayAccessTree.class, loop.getCondition()).isEmpty());
            // A field that isn't final could be changed by a method that the loop calls.
            for (VariableTree field : fields) {
                keeps(head(loop), !fixed.contains(field.getName().toString()) || isFinal(field));
            }
            for (String name : assigned(loop.getStatement())) {
                keeps(head(loop) + " assigns " + name, !fixed.contains(name));
            }
        }
    }

    private void sizes() {
        CHECK.sentence("rule 10: at most seven parameters, short methods, some forty fields");
        for (MethodTree method : methods) {
            long first = unit.getLineMap().getLineNumber(positions.getStartPosition(unit, method));
            long last = unit.getLineMap().getLineNumber(positions.getEndPosition(unit, method));
            keeps(method.getName(), method.getParameters().size() <= MOST_PARAMETERS);
            keeps(method.getName(), last - first + 1 <= MOST_LINES);
        }
        keeps("fields", fields.stream().filter(field -> !isStatic(field)).count() <= MOST_FIELDS);
    }

    private void noCallInArguments() {
        CHECK.sentence("rule 10: no call stands inside the arguments of another call");
        for (MethodInvocationTree call : all(MethodInvocationTree.class, unit)) {
            for (ExpressionTree argument : call.getArguments()) {
                keeps(call, all(MethodInvocationTree.class, argument).isEmpty());
            }
        }
    }

    private static void keeps(Object what, boolean kept) {
        CHECK.due(what + ": kept", kept ? 1 : 0, 1);
    }

    private static <T extends Tree> List<T> all(Class<T> kind, Tree root) {
        List<T> found = new ArrayList<>();
        new TreeScanner<Void, Void>() {
            @Override
            public Void scan(Tree tree, Void nothing) {
                if (kind.isInstance(tree)) {
                    found.add(kind.cast(tree));
                }
                return super.scan(tree, nothing);
            }
        }.scan(root, null);
        return found;
    }

    private static boolean isPrivate(MethodTree method) {
        return method.getModifiers().getFlags().contains(Modifier.PRIVATE);
    }

    private static boolean isStatic(VariableTree field) {
        return field.getModifiers().getFlags().contains(Modifier.STATIC);
    }

    private static boolean isFinal(VariableTree field) {
        return field.getModifiers().getFlags().contains(Modifier.FINAL);
    }

    private static boolean isArray(VariableTree variable) {
        return variable.getType() instanceof ArrayTypeTree;
    }

    private static boolean isNumberOrBoolean(Tree kind) {
        return kind instanceof PrimitiveTypeTree
                && NUMBERS_AND_BOOLEAN.contains(((PrimitiveTypeTree) kind).getPrimitiveTypeKind());
    }

    /** A parameter or local variable may hide an array field of the same name. */
    private static boolean isNumberHere(MethodTree method, IdentifierTree name) {
        for (VariableTree variable : all(VariableTree.class, method)) {
            if (!isArray(variable) && variable.getName().equals(name.getName())) {
                return true;
            }
        }
        return false;
    }

    /** The value of a literal or of a constant of the class; -1 if it is neither. */
    private int constant(ExpressionTree length) {
        if (length instanceof LiteralTree && length.getKind() == Kind.INT_LITERAL) {
            return (Integer) ((LiteralTree) length).getValue();
        }
        for (VariableTree field : fields) {
            if (isStatic(field) && length instanceof IdentifierTree
                    && field.getName().equals(((IdentifierTree) length).getName())
                    && field.getInitializer().getKind() == Kind.INT_LITERAL) {
                return (Integer) ((LiteralTree) field.getInitializer()).getValue();
            }
        }
        return -1;
    }

    private boolean isNeverZero(ExpressionTree divisor, Set<String> fromOneUp) {
        return constant(divisor) >= 1 || fromOneUp.contains(divisor.toString());
    }

    private static boolean countsUp(ForLoopTree loop) {
        return counts(loop, Set.of(Kind.LESS_THAN, Kind.LESS_THAN_EQUAL), Kind.POSTFIX_INCREMENT);
    }

    private static boolean countsDown(ForLoopTree loop) {
        return counts(loop, Set.of(Kind.GREATER_THAN, Kind.GREATER_THAN_EQUAL), Kind.POSTFIX_DECREMENT);
    }

    /** The one variable that the loop begins with, or null. */
    private static VariableTree counter(ForLoopTree loop) {
        boolean isOne = loop.getInitializer().size() == 1 && loop.getInitializer().get(0) instanceof VariableTree;
        return isOne ? (VariableTree) loop.getInitializer().get(0) : null;
    }

    private static boolean counts(ForLoopTree loop, Set<Kind> comparisons, Kind update) {
        if (counter(loop) == null || !(loop.getCondition() instanceof BinaryTree) || loop.getUpdate().size() != 1) {
            return false;
        }
        String counter = counter(loop).getName().toString();
        BinaryTree condition = (BinaryTree) loop.getCondition();
        ExpressionTree change = ((ExpressionStatementTree) loop.getUpdate().get(0)).getExpression();
        return comparisons.contains(condition.getKind())
                && condition.getLeftOperand().toString().equals(counter)
                && change.getKind() == update
                && ((UnaryTree) change).getExpression().toString().equals(counter);
    }

    private static String head(ForLoopTree loop) {
        return "for " + loop.getInitializer() + " " + loop.getCondition();
    }

    private static Set<String> assigned(Tree body) {
        Set<String> names = new TreeSet<>();
        for (AssignmentTree assignment : all(AssignmentTree.class, body)) {
            names.add(assignment.getVariable().toString());
        }
        for (CompoundAssignmentTree assignment : all(CompoundAssignmentTree.class, body)) {
            names.add(assignment.getVariable().toString());
        }
        for (UnaryTree unary : all(UnaryTree.class, body)) {
            if (COUNTING.contains(unary.getKind())) {
                names.add(unary.getExpression().toString());
            }
        }
        return names;
    }

    /** How deep the calls from here go; what goes deeper than allowed, as recursion does, is cut off. */
    private int depth(String name, int sofar) {
        int deepest = sofar;
        if (sofar <= MOST_DEPTH) {
            for (String called : calls.getOrDefault(name, Set.of())) {
                deepest = Math.max(deepest, depth(called, sofar + 1));
            }
        }
        return deepest;
    }
}
