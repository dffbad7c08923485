import com.sun.source.tree.ArrayAccessTree;
import com.sun.source.tree.ArrayTypeTree;
import com.sun.source.tree.AssertTree;
import com.sun.source.tree.BinaryTree;
import com.sun.source.tree.CompoundAssignmentTree;
import com.sun.source.tree.DoWhileLoopTree;
import com.sun.source.tree.EnhancedForLoopTree;
import com.sun.source.tree.ExpressionTree;
import com.sun.source.tree.ForLoopTree;
import com.sun.source.tree.IdentifierTree;
import com.sun.source.tree.InstanceOfTree;
import com.sun.source.tree.LambdaExpressionTree;
import com.sun.source.tree.LiteralTree;
import com.sun.source.tree.MemberReferenceTree;
import com.sun.source.tree.MemberSelectTree;
import com.sun.source.tree.MethodInvocationTree;
import com.sun.source.tree.MethodTree;
import com.sun.source.tree.NewArrayTree;
import com.sun.source.tree.NewClassTree;
import com.sun.source.tree.PrimitiveTypeTree;
import com.sun.source.tree.SynchronizedTree;
import com.sun.source.tree.ThrowTree;
import com.sun.source.tree.Tree;
import com.sun.source.tree.TryTree;
import com.sun.source.tree.TypeCastTree;
import com.sun.source.tree.VariableTree;
import com.sun.source.tree.WhileLoopTree;
import java.nio.file.Path;
import java.util.ArrayList;
import java.util.HashSet;
import java.util.List;
import java.util.Map;
import java.util.Set;
import javax.lang.model.element.Modifier;
import javax.lang.model.type.TypeKind;

/**
 * LANGUAGE.md, rule by rule; it runs in the project's folder. Rule 9 bars nothing, and rule 11
 * follows from rule 3. Here and there it asks for more than the rule does, where the class keeps
 * to the plainer form: no local array, no loop but a counted for.
 */
public final class LanguageTest {
    private static Source source;

    public static void main(String[] args) throws Exception {
        source = new Source(Path.of("src/main/java/HornProtocol.java"));
        Due.holds("the methods and fields are found",
            source.methods.size() > 14 && source.fields.size() > 38);
        Due.sentence("rule 1: one class", LanguageTest::oneClass);
        Due.sentence("rule 2: the types", LanguageTest::types);
        Due.sentence("rule 3: no class of the Java library", LanguageTest::ownNamesAlone);
        Due.sentence("rule 4: arrays are made at the start", LanguageTest::arraysAreMadeOnce);
        Due.sentence("rule 4: an array is only indexed", LanguageTest::arraysAreIndexed);
        Due.sentence("rule 5: static fields are constants", LanguageTest::staticFields);
        Due.sentence("rule 6: what is barred", LanguageTest::barred);
        Due.sentence("rule 7: a divisor is not 0", LanguageTest::divisors);
        Due.sentence("rule 8: loops have an end that can be seen", LanguageTest::loops);
        Due.sentence("rules 8 and 10: no recursion, six deep", LanguageTest::depths);
        Due.sentence("rule 10: parameters, arguments, lengths", LanguageTest::sizes);
        Due.end();
    }

    private static void none(String what, Class<? extends Tree> sort) {
        for (Tree found : Source.all(source.unit, sort)) {
            Due.holds("no " + what + ": " + found, false);
        }
    }

    private static void oneClass() {
        Due.holds("no package line", source.unit.getPackage() == null);
        Due.holds("no import", source.unit.getImports().isEmpty());
        Due.is("the number of classes", source.unit.getTypeDecls().size(), 1);
        Due.holds("a class, no interface, enum or record",
            source.type.getKind() == Tree.Kind.CLASS);
        Due.holds("its name", source.type.getSimpleName().contentEquals("HornProtocol"));
        Due.holds("public and final", source.type.getModifiers().getFlags().equals(
            Set.of(Modifier.PUBLIC, Modifier.FINAL)));
        Due.holds("it extends nothing", source.type.getExtendsClause() == null);
        Due.holds("it implements nothing", source.type.getImplementsClause().isEmpty());
        Due.is("the members that are no method and no field",
            source.type.getMembers().size() - source.methods.size() - source.fields.size(), 0);
    }

    private static boolean isNumber(Tree type) {
        return type instanceof PrimitiveTypeTree && !Set.of(TypeKind.FLOAT, TypeKind.DOUBLE,
            TypeKind.VOID).contains(((PrimitiveTypeTree) type).getPrimitiveTypeKind());
    }

    private static boolean isArray(Tree type) {
        return type instanceof ArrayTypeTree && isNumber(((ArrayTypeTree) type).getType());
    }

    private static void types() {
        for (VariableTree variable : Source.all(source.unit, VariableTree.class)) {
            Due.holds("a number or an array of numbers: " + variable,
                isNumber(variable.getType()) || isArray(variable.getType()));
        }
        for (MethodTree method : source.methods.values()) {
            Tree answer = method.getReturnType();
            Due.holds(method.getName() + " answers a number or nothing",
                answer == null || isNumber(answer) || answer.toString().equals("void"));
        }
        Set<Tree.Kind> kinds = Set.of(Tree.Kind.INT_LITERAL, Tree.Kind.LONG_LITERAL,
            Tree.Kind.CHAR_LITERAL, Tree.Kind.BOOLEAN_LITERAL);
        for (LiteralTree literal : Source.all(source.unit, LiteralTree.class)) {
            Due.holds("a number: " + literal, kinds.contains(literal.getKind()));
        }
    }

    private static void ownNamesAlone() {
        none("member of another object or class", MemberSelectTree.class);
        Set<String> own = new HashSet<>(source.methods.keySet());
        for (VariableTree variable : Source.all(source.unit, VariableTree.class)) {
            own.add(variable.getName().toString());
        }
        for (IdentifierTree name : Source.all(source.unit, IdentifierTree.class)) {
            Due.holds("a name of the class's own: " + name, own.contains(name.toString()));
        }
        for (MethodInvocationTree call : Source.all(source.unit, MethodInvocationTree.class)) {
            Due.holds("a method of the class's own: " + call,
                source.methods.containsKey(call.getMethodSelect().toString()));
        }
    }

    private static void arraysAreMadeOnce() {
        none("new object", NewClassTree.class);
        List<Tree> initialisers = new ArrayList<>();
        for (VariableTree field : source.fields.values()) {
            if (field.getInitializer() != null) {
                initialisers.add(field.getInitializer());
            }
        }
        for (NewArrayTree made : Source.all(source.unit, NewArrayTree.class)) {
            Due.holds("made in a field's initialiser: " + made, initialisers.contains(made));
            Due.holds("one length and no elements: " + made,
                made.getDimensions().size() == 1 && made.getInitializers() == null);
            Due.holds("the length is 1 or more: " + made,
                constantValue(made.getDimensions().get(0)) >= 1);
        }
    }

    private static void arraysAreIndexed() {
        Set<String> arrays = new HashSet<>();
        for (VariableTree variable : Source.all(source.unit, VariableTree.class)) {
            if (isArray(variable.getType())) {
                String name = variable.getName().toString();
                arrays.add(name);
                Due.holds(name + " is a field that never changes",
                    variable == source.fields.get(name)
                        && variable.getModifiers().getFlags().contains(Modifier.FINAL));
            }
        }
        Set<Tree> indexed = new HashSet<>();
        for (ArrayAccessTree access : Source.all(source.unit, ArrayAccessTree.class)) {
            indexed.add(access.getExpression());
        }
        for (IdentifierTree name : Source.all(source.unit, IdentifierTree.class)) {
            Due.holds("only indexed: " + name,
                !arrays.contains(name.toString()) || indexed.contains(name));
        }
    }

    private static void staticFields() {
        for (VariableTree field : source.fields.values()) {
            if (field.getModifiers().getFlags().contains(Modifier.STATIC)) {
                String type = field.getType().toString();
                Due.holds("final: " + field,
                    field.getModifiers().getFlags().contains(Modifier.FINAL));
                Due.holds("an int or a long: " + field,
                    type.equals("int") || type.equals("long"));
                Due.holds("a plain number: " + field,
                    field.getInitializer().toString().matches("-?\\d+"));
            }
        }
    }

    private static void barred() {
        none("throw", ThrowTree.class);
        none("try", TryTree.class);
        none("synchronized", SynchronizedTree.class);
        none("assert", AssertTree.class);
        none("instanceof", InstanceOfTree.class);
        none("lambda", LambdaExpressionTree.class);
        none("method reference", MemberReferenceTree.class);
        for (TypeCastTree cast : Source.all(source.unit, TypeCastTree.class)) {
            Due.holds("a cast to a number: " + cast, isNumber(cast.getType()));
        }
        for (MethodTree method : source.methods.values()) {
            Due.holds(method.getName() + " declares no throws", method.getThrows().isEmpty());
            Due.holds(method.getName() + " is not synchronized",
                !method.getModifiers().getFlags().contains(Modifier.SYNCHRONIZED));
        }
    }

    /** The value of a literal or a constant; 0 for anything else. */
    private static long constantValue(Tree tree) {
        String text = source.isConstant(tree)
            ? source.fields.get(tree.toString()).getInitializer().toString() : tree.toString();
        return text.matches("-?\\d+") ? Long.parseLong(text) : 0;
    }

    private static void divisors() {
        for (BinaryTree binary : Source.all(source.unit, BinaryTree.class)) {
            if (binary.getKind() == Tree.Kind.DIVIDE || binary.getKind() == Tree.Kind.REMAINDER) {
                Due.holds("a constant that is not 0 divides: " + binary,
                    constantValue(binary.getRightOperand()) != 0);
            }
        }
        for (CompoundAssignmentTree a : Source.all(source.unit, CompoundAssignmentTree.class)) {
            Due.holds("no division in an assignment: " + a,
                a.getKind() != Tree.Kind.DIVIDE_ASSIGNMENT
                    && a.getKind() != Tree.Kind.REMAINDER_ASSIGNMENT);
        }
    }

    private static void loops() {
        none("while loop", WhileLoopTree.class);
        none("do loop", DoWhileLoopTree.class);
        none("for loop over elements", EnhancedForLoopTree.class);
        for (ForLoopTree loop : Source.all(source.unit, ForLoopTree.class)) {
            Due.holds("counts up to a bound: " + loop, countsUp(loop));
        }
    }

    /** One counter goes up by one, and neither it nor its bound changes in the loop. */
    private static boolean countsUp(ForLoopTree loop) {
        if (loop.getInitializer().size() != 1 || loop.getUpdate().size() != 1
                || !(loop.getInitializer().get(0) instanceof VariableTree)) {
            return false;
        }
        String counter = ((VariableTree) loop.getInitializer().get(0)).getName().toString();
        Set<String> changed = source.changes(loop.getStatement());
        changed.addAll(source.changes(loop.getCondition()));
        return loop.getUpdate().get(0).toString().equals(counter + "++;")
            && !changed.contains(counter) && isBounded(loop.getCondition(), counter, changed);
    }

    private static boolean isBounded(ExpressionTree condition, String counter,
            Set<String> changed) {
        BinaryTree binary = condition instanceof BinaryTree ? (BinaryTree) condition : null;
        if (binary == null) {
            return false;
        }
        if (binary.getKind() == Tree.Kind.CONDITIONAL_AND) {
            return isBounded(binary.getLeftOperand(), counter, changed)
                || isBounded(binary.getRightOperand(), counter, changed);
        }
        boolean below = binary.getKind() == Tree.Kind.LESS_THAN
            || binary.getKind() == Tree.Kind.LESS_THAN_EQUAL;
        String bound = binary.getRightOperand().toString();
        return below && binary.getLeftOperand().toString().equals(counter)
            && source.fields.containsKey(bound) && !changed.contains(bound);
    }

    private static void depths() {
        for (Map.Entry<String, MethodTree> method : source.methods.entrySet()) {
            Set<String> level = Set.of(method.getKey());
            int depth = 0;
            // Recursion shows as a depth that goes on growing.
            while (!level.isEmpty() && depth <= 6) {
                depth++;
                Set<String> next = new HashSet<>();
                for (String caller : level) {
                    next.addAll(source.calls(source.methods.get(caller)));
                }
                level = next;
            }
            Due.holds(method.getKey() + " calls at most six deep", depth <= 6);
        }
    }

    private static void sizes() {
        for (MethodTree method : source.methods.values()) {
            Due.holds(method.getName() + " takes at most seven parameters",
                method.getParameters().size() <= 7);
            Due.holds(method.getName() + " is short", source.lines(method) <= 60);
        }
        for (MethodInvocationTree call : Source.all(source.unit, MethodInvocationTree.class)) {
            for (ExpressionTree argument : call.getArguments()) {
                Due.holds("no call in the arguments of " + call,
                    Source.all(argument, MethodInvocationTree.class).isEmpty());
            }
        }
        int beside = 0;
        for (VariableTree field : source.fields.values()) {
            beside += field.getModifiers().getFlags().contains(Modifier.STATIC) ? 0 : 1;
        }
        Due.holds("at most forty fields beside the constants", beside <= 40);
    }
}
