import com.sun.source.tree.ArrayTypeTree;
import com.sun.source.tree.AssignmentTree;
import com.sun.source.tree.BinaryTree;
import com.sun.source.tree.ClassTree;
import com.sun.source.tree.CompoundAssignmentTree;
import com.sun.source.tree.ForLoopTree;
import com.sun.source.tree.IdentifierTree;
import com.sun.source.tree.MethodInvocationTree;
import com.sun.source.tree.MethodTree;
import com.sun.source.tree.NewArrayTree;
import com.sun.source.tree.PrimitiveTypeTree;
import com.sun.source.tree.Tree;
import com.sun.source.tree.Tree.Kind;
import com.sun.source.tree.TypeCastTree;
import com.sun.source.tree.UnaryTree;
import com.sun.source.tree.VariableTree;
import com.sun.source.util.TreePath;
import com.sun.source.util.TreeScanner;
import java.util.EnumSet;
import java.util.HashSet;
import java.util.List;
import java.util.Map;
import java.util.Set;
import java.util.TreeMap;
import java.util.TreeSet;
import javax.lang.model.element.Modifier;
import javax.lang.model.type.TypeKind;

/**
 * The rules of LANGUAGE.md, by their numbers, as far as they can be read off the program's text;
 * some are held here more narrowly than they are written, in the form that the program uses.
 */
public final class LanguageTest {
    private static final Checks CHECKS = new Checks();
    private static final Source PROGRAM = new Source("src/main/java/FrontierWatch.java");

    private static final Set<Kind> CLASSES =
        EnumSet.of(Kind.CLASS, Kind.INTERFACE, Kind.ENUM, Kind.RECORD, Kind.ANNOTATION_TYPE);
    private static final Set<Kind> OBJECTS = EnumSet.of(Kind.NEW_CLASS, Kind.NULL_LITERAL,
        Kind.STRING_LITERAL, Kind.FLOAT_LITERAL, Kind.DOUBLE_LITERAL);
    private static final Set<Kind> RULED_OUT = EnumSet.of(Kind.THROW, Kind.TRY, Kind.CATCH,
        Kind.SYNCHRONIZED, Kind.ASSERT, Kind.INSTANCE_OF, Kind.LAMBDA_EXPRESSION, Kind.MEMBER_REFERENCE);
    private static final Set<Kind> OTHER_LOOPS =
        EnumSet.of(Kind.WHILE_LOOP, Kind.DO_WHILE_LOOP, Kind.ENHANCED_FOR_LOOP);
    private static final Set<Kind> BOUNDS = EnumSet.of(Kind.LESS_THAN, Kind.LESS_THAN_EQUAL);

    public static void main(String[] args) {
        CHECKS.sentence("1: One class", LanguageTest::oneClass);
        CHECKS.sentence("1: No private method bears the name of a public one", LanguageTest::names);
        CHECKS.sentence("2: Types", LanguageTest::types);
        CHECKS.sentence("3: No class of the Java library", LanguageTest::noLibrary);
        CHECKS.sentence("4: Arrays are made in a field's initialiser", LanguageTest::arrays);
        CHECKS.sentence("5: Static fields are compile-time constants", LanguageTest::constants);
        CHECKS.sentence("6: No throw, try, catch, synchronized, assert, instanceof, lambda, method "
            + "reference or cast of a reference", LanguageTest::ruledOut);
        CHECKS.sentence("8: No recursion", LanguageTest::noRecursion);
        CHECKS.sentence("8: Every loop has an end that can be seen from its own lines", LanguageTest::loops);
        CHECKS.sentence("10: A method takes at most seven parameters", LanguageTest::parameters);
        CHECKS.sentence("10: no call stands inside the arguments of another call",
            LanguageTest::callsInArguments);
        CHECKS.sentence("10: Methods stay short, calls go at most six deep, and the class has at most "
            + "some forty fields beside its constants", LanguageTest::sizes);
        CHECKS.end();
    }

    private static void oneClass() {
        List<TreePath> classes = PROGRAM.partsOf(CLASSES);
        CHECKS.due("number of classes", classes.size(), 1);
        CHECKS.holds("no package line", PROGRAM.unit.getPackageName() == null);
        ClassTree program = (ClassTree) classes.get(0).getLeaf();
        CHECKS.holds("public and final", program.getModifiers().getFlags().equals(
            Set.of(Modifier.PUBLIC, Modifier.FINAL)));
    }

    private static void names() {
        Set<String> names = new HashSet<>();
        for (MethodTree method : PROGRAM.methods()) {
            String name = method.getName().toString();
            CHECKS.holds(name + " is the only one of its name", names.add(name));
        }
    }

    private static void types() {
        for (MethodTree method : PROGRAM.methods()) {
            Tree answer = method.getReturnType();
            CHECKS.holds(method.getName() + " answers a number, a truth value or nothing",
                answer == null || isNumber(answer) || isPrimitive(answer, TypeKind.VOID));
        }
        for (VariableTree field : PROGRAM.fields()) {
            CHECKS.holds(field.getName() + " is a number or a row of numbers", isNumber(field.getType())
                || isRow(field));
        }
        for (VariableTree variable : PROGRAM.variablesInMethods()) {
            CHECKS.holds(variable.getName() + " is a number", isNumber(variable.getType()));
        }
        CHECKS.due("objects and broken numbers", PROGRAM.partsOf(OBJECTS).size(), 0);
    }

    private static void noLibrary() {
        CHECKS.due("imports", PROGRAM.unit.getImports().size(), 0);
        // Without a dot, a name can be none but the class's own.
        CHECKS.due("members of something else", PROGRAM.partsOf(Set.of(Kind.MEMBER_SELECT)).size(), 0);
        Set<String> own = new HashSet<>();
        PROGRAM.methods().forEach(method -> own.add(method.getName().toString()));
        for (MethodTree method : PROGRAM.methods()) {
            for (String called : calledBy(method)) {
                CHECKS.holds(called + " is a method of the class", own.contains(called));
            }
        }
    }

    private static void arrays() {
        for (TreePath made : PROGRAM.partsOf(Set.of(Kind.NEW_ARRAY))) {
            NewArrayTree array = (NewArrayTree) made.getLeaf();
            CHECKS.holds(array + " is made for a field", Source.isField(made.getParentPath()));
            CHECKS.holds(array + " has one length, a constant's name", array.getDimensions().size() == 1
                && array.getInitializers() == null
                && constantNames().contains(array.getDimensions().get(0).toString()));
        }
        for (VariableTree field : PROGRAM.fields()) {
            CHECKS.holds(field.getName() + " stays the array that it is", !isRow(field)
                || has(field, Modifier.FINAL) && field.getInitializer() != null);
        }
    }

    private static void constants() {
        for (VariableTree field : PROGRAM.fields()) {
            boolean isConstant = has(field, Modifier.FINAL) && field.getInitializer() != null
                && (isPrimitive(field.getType(), TypeKind.INT) || isPrimitive(field.getType(), TypeKind.LONG))
                && isLiteral(field.getInitializer());
            CHECKS.holds(field.getName() + " is a constant if it is static",
                !has(field, Modifier.STATIC) || isConstant);
        }
        for (TreePath block : PROGRAM.partsOf(Set.of(Kind.BLOCK))) {
            CHECKS.holds("no initialiser", block.getParentPath().getLeaf().getKind() != Kind.CLASS);
        }
    }

    private static void ruledOut() {
        CHECKS.due("what the rule names", PROGRAM.partsOf(RULED_OUT).size(), 0);
        for (TreePath cast : PROGRAM.partsOf(Set.of(Kind.TYPE_CAST))) {
            CHECKS.holds(cast.getLeaf() + " is a cast to a number",
                isNumber(((TypeCastTree) cast.getLeaf()).getType()));
        }
    }

    private static void noRecursion() {
        Map<String, Set<String>> calls = calls();
        Set<String> open = new TreeSet<>(calls.keySet());
        // What calls only what is settled is settled; a method that never is calls itself in the end.
        while (open.removeIf(name -> calls.get(name).stream().noneMatch(open::contains))) {
            CHECKS.holds("methods are left, or none", open.size() < calls.size());
        }
        CHECKS.holds("none of these calls itself: " + open, open.isEmpty());
    }

    private static void loops() {
        CHECKS.due("loops without a counter", PROGRAM.partsOf(OTHER_LOOPS).size(), 0);
        for (TreePath part : PROGRAM.partsOf(Set.of(Kind.FOR_LOOP))) {
            ForLoopTree loop = (ForLoopTree) part.getLeaf();
            CHECKS.holds("counts up to a bound: " + loop, isCounted(loop));
        }
    }

    private static void parameters() {
        for (MethodTree method : PROGRAM.methods()) {
            CHECKS.holds(method.getName() + " takes seven at most", method.getParameters().size() <= 7);
        }
    }

    private static void callsInArguments() {
        for (TreePath part : PROGRAM.partsOf(Set.of(Kind.METHOD_INVOCATION))) {
            MethodInvocationTree call = (MethodInvocationTree) part.getLeaf();
            for (Tree argument : call.getArguments()) {
                CHECKS.holds("no call in an argument of " + call, calledBy(argument).isEmpty());
            }
        }
    }

    private static void sizes() {
        for (MethodTree method : PROGRAM.methods()) {
            CHECKS.holds(method.getName() + " has sixty lines at most", PROGRAM.linesOf(method) <= 60);
        }
        CHECKS.holds("at most six deep", depth() <= 6);
        long held = PROGRAM.fields().stream().filter(field -> !has(field, Modifier.STATIC)).count();
        CHECKS.holds("at most forty fields", held <= 40);
    }

    private static boolean has(VariableTree variable, Modifier modifier) {
        return variable.getModifiers().getFlags().contains(modifier);
    }

    private static boolean isPrimitive(Tree type, TypeKind kind) {
        return type instanceof PrimitiveTypeTree primitive && primitive.getPrimitiveTypeKind() == kind;
    }

    private static boolean isNumber(Tree type) {
        return type instanceof PrimitiveTypeTree && !isPrimitive(type, TypeKind.VOID)
            && !isPrimitive(type, TypeKind.FLOAT) && !isPrimitive(type, TypeKind.DOUBLE);
    }

    private static boolean isRow(VariableTree variable) {
        return variable.getType() instanceof ArrayTypeTree array && isNumber(array.getType());
    }

    private static boolean isLiteral(Tree value) {
        Tree number = value.getKind() == Kind.UNARY_MINUS ? ((UnaryTree) value).getExpression() : value;
        return number.getKind() == Kind.INT_LITERAL || number.getKind() == Kind.LONG_LITERAL;
    }

    private static Set<String> constantNames() {
        Set<String> names = new HashSet<>();
        for (VariableTree field : PROGRAM.fields()) {
            if (has(field, Modifier.STATIC)) {
                names.add(field.getName().toString());
            }
        }
        return names;
    }

    private static Map<String, Set<String>> calls() {
        Map<String, Set<String>> calls = new TreeMap<>();
        for (MethodTree method : PROGRAM.methods()) {
            calls.put(method.getName().toString(), calledBy(method));
        }
        return calls;
    }

    private static Set<String> calledBy(Tree part) {
        Set<String> called = new TreeSet<>();
        new TreeScanner<Void, Void>() {
            @Override
            public Void visitMethodInvocation(MethodInvocationTree call, Void nothing) {
                called.add(call.getMethodSelect().toString());
                return super.visitMethodInvocation(call, nothing);
            }
        }.scan(part, null);
        return called;
    }

    /** How many methods stand in the longest row of which each calls the next; above 6, 7. */
    private static int depth() {
        Map<String, Set<String>> calls = calls();
        Set<String> reached = new HashSet<>(calls.keySet());
        int depth = 0;
        while (!reached.isEmpty() && depth <= 6) {
            Set<String> next = new HashSet<>();
            reached.forEach(name -> next.addAll(calls.get(name)));
            next.retainAll(calls.keySet());
            reached = next;
            depth++;
        }
        return depth;
    }

    private static boolean isCounted(ForLoopTree loop) {
        if (loop.getInitializer().size() != 1 || loop.getUpdate().size() != 1 || loop.getCondition() == null
            || !(loop.getInitializer().get(0) instanceof VariableTree)
            || !BOUNDS.contains(loop.getCondition().getKind())) {
            return false;
        }
        String counter = ((VariableTree) loop.getInitializer().get(0)).getName().toString();
        BinaryTree condition = (BinaryTree) loop.getCondition();
        return condition.getLeftOperand().toString().equals(counter)
            && condition.getRightOperand() instanceof IdentifierTree
            && loop.getUpdate().get(0).getExpression().toString().equals(counter + "++")
            && !isChangedIn(loop.getStatement(), Set.of(counter, condition.getRightOperand().toString()));
    }

    private static boolean isChangedIn(Tree part, Set<String> names) {
        Set<String> changed = new HashSet<>();
        new TreeScanner<Void, Void>() {
            @Override
            public Void visitAssignment(AssignmentTree change, Void nothing) {
                changed.add(change.getVariable().toString());
                return super.visitAssignment(change, nothing);
            }

            @Override
            public Void visitUnary(UnaryTree change, Void nothing) {
                changed.add(change.getExpression().toString());
                return super.visitUnary(change, nothing);
            }

            @Override
            public Void visitCompoundAssignment(CompoundAssignmentTree change, Void nothing) {
                changed.add(change.getVariable().toString());
                return super.visitCompoundAssignment(change, nothing);
            }
        }.scan(part, null);
        changed.retainAll(names);
        return !changed.isEmpty();
    }
}
