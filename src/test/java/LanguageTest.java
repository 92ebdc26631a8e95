import com.sun.source.tree.AssignmentTree;
import com.sun.source.tree.BinaryTree;
import com.sun.source.tree.BlockTree;
import com.sun.source.tree.ClassTree;
import com.sun.source.tree.CompoundAssignmentTree;
import com.sun.source.tree.DoWhileLoopTree;
import com.sun.source.tree.ExpressionTree;
import com.sun.source.tree.ForLoopTree;
import com.sun.source.tree.IdentifierTree;
import com.sun.source.tree.MemberSelectTree;
import com.sun.source.tree.MethodInvocationTree;
import com.sun.source.tree.MethodTree;
import com.sun.source.tree.ModifiersTree;
import com.sun.source.tree.NewArrayTree;
import com.sun.source.tree.Tree;
import com.sun.source.tree.Tree.Kind;
import com.sun.source.tree.TypeCastTree;
import com.sun.source.tree.UnaryTree;
import com.sun.source.tree.VariableTree;
import com.sun.source.tree.WhileLoopTree;
import java.util.EnumSet;
import java.util.Set;
import java.util.TreeSet;
import javax.lang.model.element.Modifier;

/**
 * The rules of LANGUAGE.md, as far as the text of the class shows them. Where a rule leaves several ways, the test asks
 * for the one that the class has taken, such as for loops alone: the plainer the form, the less there is to look at.
 */
public final class LanguageTest {
    private static final Checks CHECKS = new Checks();
    private static final Source SOURCE = new Source("src/main/java/FixnumBailout.java");
    private static final String NUMBER = "int|long|short|byte|char|boolean";
    private static final Set<Kind> KINDS = kinds();
    private static final Set<Modifier> MODIFIERS =
        EnumSet.of(Modifier.PUBLIC, Modifier.PRIVATE, Modifier.STATIC, Modifier.FINAL);
    private static final Set<Kind> DIVISIONS =
        EnumSet.of(Kind.DIVIDE, Kind.REMAINDER, Kind.DIVIDE_ASSIGNMENT, Kind.REMAINDER_ASSIGNMENT);
    private static final Set<Kind> BELOW = EnumSet.of(Kind.LESS_THAN, Kind.LESS_THAN_EQUAL);
    private static final Set<Kind> ABOVE = EnumSet.of(Kind.GREATER_THAN, Kind.GREATER_THAN_EQUAL);
    private static final Set<Kind> STEPS_UP = EnumSet.of(Kind.POSTFIX_INCREMENT, Kind.PREFIX_INCREMENT);
    private static final Set<Kind> STEPS_DOWN = EnumSet.of(Kind.POSTFIX_DECREMENT, Kind.PREFIX_DECREMENT);

    public static void main(String[] args) {
        CHECKS.sentence("Rule 1: One class, without a package line, with no nested one", LanguageTest::oneClass);
        CHECKS.sentence("Rule 1: no other public, protected or package-visible member", LanguageTest::visibility);
        CHECKS.sentence("Rule 1: No private method bears the name of a public one.", LanguageTest::privateNames);
        CHECKS.sentence("Rule 2: whole numbers, boolean, and one-dimensional arrays of these", LanguageTest::types);
        CHECKS.sentence("Rule 3: No class of the Java library; none of Object's methods is called",
            LanguageTest::noLibrary);
        CHECKS.sentence("Rule 4: Arrays are made in a field's initialiser, with a length that is a literal or a constant",
            LanguageTest::arraysMade);
        CHECKS.sentence("Rule 4: An array is never answered, compared or assigned", LanguageTest::arraysUsed);
        CHECKS.sentence("Rule 5: Static fields are compile-time constants of int or long alone.",
            LanguageTest::staticFields);
        CHECKS.sentence("Rule 5: no static initialiser", LanguageTest::noInitialiser);
        CHECKS.sentence("Rules 6 and 9: what is fine, and nothing else", LanguageTest::partsOfTheLanguage);
        CHECKS.sentence("Rule 7: a divisor is looked at before it divides", LanguageTest::divisors);
        CHECKS.sentence("Rule 8: No recursion; rule 10: calls go at most six deep", LanguageTest::callDepth);
        CHECKS.sentence("Rule 8: Every loop has an end that can be seen from its own lines", LanguageTest::loops);
        CHECKS.sentence("Rule 10: A method takes at most seven parameters, and stays short", LanguageTest::methodSizes);
        CHECKS.sentence("Rule 10: no call stands inside the arguments of another call", LanguageTest::callsInArguments);
        CHECKS.sentence("Rule 10: at most some forty fields beside its constants", LanguageTest::numberOfFields);
        CHECKS.finish();
    }

    private static void fine(Tree tree, String rule, boolean kept) {
        CHECKS.due("line " + SOURCE.lineOf(tree) + ": " + tree + ": " + rule, kept, true);
    }

    private static void oneClass() {
        CHECKS.due("package", SOURCE.unit.getPackageName() == null, true);
        CHECKS.due("classes", SOURCE.all(ClassTree.class).size(), 1);
        CHECKS.due("class", SOURCE.theClass().getSimpleName().toString(), "FixnumBailout");
        CHECKS.due("superclass", SOURCE.theClass().getExtendsClause() == null, true);
        CHECKS.due("interfaces", SOURCE.theClass().getImplementsClause().size(), 0);
    }

    private static boolean isPublic(ModifiersTree modifiers) {
        return Source.has(modifiers, Modifier.PUBLIC);
    }

    private static void visibility() {
        for (VariableTree field : SOURCE.members(VariableTree.class)) {
            boolean constant = isPublic(field.getModifiers()) && isStatic(field);
            fine(field, "private or a constant", constant || Source.has(field.getModifiers(), Modifier.PRIVATE));
        }
        int publicOnes = 0;
        for (MethodTree method : SOURCE.members(MethodTree.class)) {
            publicOnes += isPublic(method.getModifiers()) ? 1 : 0;
            boolean kept = isPublic(method.getModifiers()) || Source.has(method.getModifiers(), Modifier.PRIVATE);
            CHECKS.due(method.getName() + " is public or private", kept, true);
        }
        CHECKS.due("the document's methods and constructor", publicOnes, 12);
    }

    private static void privateNames() {
        Set<String> publicNames = new TreeSet<>();
        for (MethodTree method : SOURCE.members(MethodTree.class)) {
            if (isPublic(method.getModifiers())) {
                publicNames.add(method.getName().toString());
            }
        }
        for (MethodTree method : SOURCE.members(MethodTree.class)) {
            boolean named = publicNames.contains(method.getName().toString());
            CHECKS.due(method.getName() + " has a public name", named, isPublic(method.getModifiers()));
        }
    }

    private static boolean isArray(VariableTree variable) {
        return variable.getType().toString().endsWith("[]");
    }

    private static void types() {
        for (VariableTree variable : SOURCE.all(VariableTree.class)) {
            boolean told = variable.getType() != null;
            fine(variable, "of whole numbers", told && variable.getType().toString().matches("(" + NUMBER + ")(\\[])?"));
        }
        for (MethodTree method : SOURCE.members(MethodTree.class)) {
            Tree answer = method.getReturnType();
            boolean kept = answer == null || answer.toString().matches(NUMBER + "|void");
            CHECKS.due(method.getName() + " answers a whole number, a boolean or nothing", kept, true);
        }
        for (TypeCastTree cast : SOURCE.all(TypeCastTree.class)) {
            fine(cast, "between the number types", cast.getType().toString().matches(NUMBER));
        }
    }

    private static void noLibrary() {
        CHECKS.due("imports", SOURCE.unit.getImports().size(), 0);
        CHECKS.due("names of other names", SOURCE.all(MemberSelectTree.class).toString(), "[]");
        Set<String> own = SOURCE.names();
        for (IdentifierTree name : SOURCE.all(IdentifierTree.class)) {
            fine(name, "a name of the class's own", own.contains(name.getName().toString()));
        }
    }

    private static void arraysMade() {
        for (NewArrayTree made : SOURCE.all(NewArrayTree.class)) {
            fine(made, "in a field's initialiser", SOURCE.members(Tree.class).contains(SOURCE.parentOf(made)));
            boolean oneLength = made.getDimensions().size() == 1 && made.getInitializers() == null;
            fine(made, "with a constant length", oneLength && SOURCE.isConstant(made.getDimensions().get(0)));
        }
    }

    private static void arraysUsed() {
        Set<String> arrays = new TreeSet<>();
        for (VariableTree variable : SOURCE.all(VariableTree.class)) {
            if (isArray(variable)) {
                arrays.add(variable.getName().toString());
                boolean parameter = SOURCE.parentOf(variable) instanceof MethodTree;
                boolean field = SOURCE.members(VariableTree.class).contains(variable);
                boolean lasting = Source.has(variable.getModifiers(), Modifier.FINAL);
                fine(variable, "a parameter, or a field made once", parameter || field && lasting);
            }
        }
        for (BinaryTree both : SOURCE.all(BinaryTree.class)) {
            if (both.getKind() == Kind.EQUAL_TO || both.getKind() == Kind.NOT_EQUAL_TO) {
                boolean compared = arrays.contains(both.getLeftOperand().toString())
                    || arrays.contains(both.getRightOperand().toString());
                fine(both, "not of arrays", !compared);
            }
        }
        for (AssignmentTree assignment : SOURCE.all(AssignmentTree.class)) {
            fine(assignment, "not of an array", !arrays.contains(assignment.getVariable().toString()));
        }
    }

    private static boolean isStatic(VariableTree field) {
        return Source.has(field.getModifiers(), Modifier.STATIC);
    }

    private static void staticFields() {
        for (VariableTree field : SOURCE.members(VariableTree.class)) {
            if (isStatic(field)) {
                fine(field, "final", Source.has(field.getModifiers(), Modifier.FINAL));
                fine(field, "int or long", field.getType().toString().matches("int|long"));
                for (ExpressionTree part : Source.all(ExpressionTree.class, field.getInitializer())) {
                    boolean kept = part instanceof BinaryTree || part instanceof UnaryTree || SOURCE.isConstant(part);
                    fine(field, "made of constants", kept);
                }
            }
        }
    }

    private static void noInitialiser() {
        CHECKS.due("blocks outside of methods", SOURCE.members(BlockTree.class).toString(), "[]");
    }

    private static Set<Kind> kinds() {
        Set<Kind> fine = EnumSet.of(Kind.COMPILATION_UNIT, Kind.CLASS, Kind.MODIFIERS, Kind.VARIABLE, Kind.METHOD,
            Kind.PRIMITIVE_TYPE, Kind.ARRAY_TYPE, Kind.NEW_ARRAY, Kind.ARRAY_ACCESS, Kind.IDENTIFIER, Kind.METHOD_INVOCATION,
            Kind.INT_LITERAL, Kind.LONG_LITERAL, Kind.CHAR_LITERAL, Kind.BOOLEAN_LITERAL);
        fine.addAll(EnumSet.of(Kind.BLOCK, Kind.EXPRESSION_STATEMENT, Kind.EMPTY_STATEMENT, Kind.RETURN, Kind.IF,
            Kind.FOR_LOOP, Kind.WHILE_LOOP, Kind.DO_WHILE_LOOP, Kind.SWITCH, Kind.CASE, Kind.BREAK, Kind.CONTINUE,
            Kind.LABELED_STATEMENT, Kind.CONDITIONAL_EXPRESSION, Kind.PARENTHESIZED, Kind.TYPE_CAST));
        fine.add(Kind.ASSIGNMENT);
        // Between these two stand all other operators, and no other kinds.
        fine.addAll(EnumSet.range(Kind.POSTFIX_INCREMENT, Kind.OR_ASSIGNMENT));
        return fine;
    }

    private static void partsOfTheLanguage() {
        for (Tree part : SOURCE.all(Tree.class)) {
            String place = "line " + SOURCE.lineOf(part) + ": ";
            CHECKS.due(place + part.getKind() + " is fine", KINDS.contains(part.getKind()), true);
        }
        for (ModifiersTree modifiers : SOURCE.all(ModifiersTree.class)) {
            fine(modifiers, "fine modifiers", MODIFIERS.containsAll(modifiers.getFlags()));
        }
        for (MethodTree method : SOURCE.members(MethodTree.class)) {
            CHECKS.due("exceptions of " + method.getName(), method.getThrows().size(), 0);
        }
    }

    private static void divisors() {
        for (BinaryTree both : SOURCE.all(BinaryTree.class)) {
            if (DIVISIONS.contains(both.getKind())) {
                fine(both, "by a constant", SOURCE.isConstant(both.getRightOperand()));
            }
        }
        for (CompoundAssignmentTree assignment : SOURCE.all(CompoundAssignmentTree.class)) {
            if (DIVISIONS.contains(assignment.getKind())) {
                fine(assignment, "by a constant", SOURCE.isConstant(assignment.getExpression()));
            }
        }
    }

    /** Peels off the methods that call none of those left: each round is one more call deep, and recursion stays over. */
    private static void callDepth() {
        Set<String> left = new TreeSet<>();
        SOURCE.members(MethodTree.class).forEach(method -> left.add(method.getName().toString()));
        for (int depth = 1; depth <= 6; depth++) {
            Set<String> leaves = new TreeSet<>(left);
            for (MethodTree method : SOURCE.members(MethodTree.class)) {
                Set<String> called = Source.calls(method);
                called.retainAll(left);
                if (!called.isEmpty()) {
                    leaves.remove(method.getName().toString());
                }
            }
            left.removeAll(leaves);
        }
        CHECKS.due("methods with more than six deep, or without an end", left.toString(), "[]");
    }

    private static void loops() {
        CHECKS.due("while loops", SOURCE.all(WhileLoopTree.class).toString(), "[]");
        CHECKS.due("do loops", SOURCE.all(DoWhileLoopTree.class).toString(), "[]");
        for (ForLoopTree loop : SOURCE.all(ForLoopTree.class)) {
            boolean oneCounter = loop.getInitializer().size() == 1 && loop.getInitializer().get(0) instanceof VariableTree;
            fine(loop, "has a counter", oneCounter);
            fine(loop, "has a bound", oneCounter && boundOf(loop) != null);
            if (oneCounter && boundOf(loop) != null) {
                String counter = ((VariableTree) loop.getInitializer().get(0)).getName().toString();
                fine(loop, "looks at its counter", boundOf(loop).getLeftOperand().toString().equals(counter));
                fine(loop, "steps toward its bound", stepsTowardBound(loop, counter));
                fine(loop, "leaves its counter alone", !changes(loop.getStatement(), counter));
                for (IdentifierTree name : Source.all(IdentifierTree.class, boundOf(loop).getRightOperand())) {
                    fine(loop, "leaves its bound alone", !changes(loop.getStatement(), name.getName().toString()));
                }
            }
        }
    }

    /** The order that a loop's condition is, or that stands ahead of others that must hold too. */
    private static BinaryTree boundOf(ForLoopTree loop) {
        Tree first = loop.getCondition();
        while (first != null && first.getKind() == Kind.CONDITIONAL_AND) {
            first = ((BinaryTree) first).getLeftOperand();
        }
        boolean order = first != null && (BELOW.contains(first.getKind()) || ABOVE.contains(first.getKind()));
        return order ? (BinaryTree) first : null;
    }

    private static boolean stepsTowardBound(ForLoopTree loop, String counter) {
        Set<Kind> steps = BELOW.contains(boundOf(loop).getKind()) ? STEPS_UP : STEPS_DOWN;
        if (loop.getUpdate().size() != 1 || !steps.contains(loop.getUpdate().get(0).getExpression().getKind())) {
            return false;
        }
        return ((UnaryTree) loop.getUpdate().get(0).getExpression()).getExpression().toString().equals(counter);
    }

    private static boolean changes(Tree within, String name) {
        Set<String> changed = new TreeSet<>();
        for (UnaryTree step : Source.all(UnaryTree.class, within)) {
            if (STEPS_UP.contains(step.getKind()) || STEPS_DOWN.contains(step.getKind())) {
                changed.add(step.getExpression().toString());
            }
        }
        Source.all(AssignmentTree.class, within).forEach(one -> changed.add(one.getVariable().toString()));
        Source.all(CompoundAssignmentTree.class, within).forEach(one -> changed.add(one.getVariable().toString()));
        return changed.contains(name);
    }

    private static void methodSizes() {
        for (MethodTree method : SOURCE.members(MethodTree.class)) {
            CHECKS.due(method.getName() + " has at most 7 parameters", method.getParameters().size() <= 7, true);
            CHECKS.due(method.getName() + " has at most 60 lines", SOURCE.lines(method) <= 60, true);
        }
    }

    private static void callsInArguments() {
        for (MethodInvocationTree call : SOURCE.all(MethodInvocationTree.class)) {
            for (ExpressionTree argument : call.getArguments()) {
                fine(call, "has no call among its arguments", Source.calls(argument).isEmpty());
            }
        }
    }

    private static void numberOfFields() {
        long fields = SOURCE.members(VariableTree.class).stream().filter(field -> !isStatic(field)).count();
        CHECKS.due("at most 40 fields", fields <= 40, true);
    }
}
