import com.sun.source.tree.AssignmentTree;
import com.sun.source.tree.ClassTree;
import com.sun.source.tree.CompilationUnitTree;
import com.sun.source.tree.CompoundAssignmentTree;
import com.sun.source.tree.ExpressionTree;
import com.sun.source.tree.IdentifierTree;
import com.sun.source.tree.MethodInvocationTree;
import com.sun.source.tree.MethodTree;
import com.sun.source.tree.Tree;
import com.sun.source.tree.UnaryTree;
import com.sun.source.tree.VariableTree;
import com.sun.source.util.JavacTask;
import com.sun.source.util.TreeScanner;
import com.sun.source.util.Trees;
import java.nio.file.Path;
import java.util.ArrayDeque;
import java.util.ArrayList;
import java.util.Deque;
import java.util.LinkedHashMap;
import java.util.List;
import java.util.Map;
import java.util.Set;
import java.util.TreeSet;
import javax.lang.model.element.Modifier;
import javax.tools.JavaCompiler;
import javax.tools.StandardJavaFileManager;
import javax.tools.ToolProvider;

/** The text of a class as the compiler's parser sees it. */
final class Source {
    final CompilationUnitTree unit;
    final ClassTree type;
    /** The methods by their names, the constructor as "&lt;init&gt;". */
    final Map<String, MethodTree> methods = new LinkedHashMap<>();
    final Map<String, VariableTree> fields = new LinkedHashMap<>();
    private final Trees trees;

    Source(Path path) throws Exception {
        JavaCompiler compiler = ToolProvider.getSystemJavaCompiler();
        try (StandardJavaFileManager files = compiler.getStandardFileManager(null, null, null)) {
            JavacTask task = (JavacTask) compiler.getTask(null, files, null, null, null,
                files.getJavaFileObjects(path));
            unit = task.parse().iterator().next();
            trees = Trees.instance(task);
        }
        type = (ClassTree) unit.getTypeDecls().get(0);
        for (Tree member : type.getMembers()) {
            if (member instanceof MethodTree) {
                MethodTree method = (MethodTree) member;
                Due.holds(method.getName() + " is declared once",
                    methods.put(method.getName().toString(), method) == null);
            }
            if (member instanceof VariableTree) {
                VariableTree field = (VariableTree) member;
                fields.put(field.getName().toString(), field);
            }
        }
    }

    /** All trees of this sort in a tree, itself among them. */
    static <T extends Tree> List<T> all(Tree root, Class<T> sort) {
        List<T> found = new ArrayList<>();
        new TreeScanner<Void, Void>() {
            @Override
            public Void scan(Tree tree, Void none) {
                if (sort.isInstance(tree)) {
                    found.add(sort.cast(tree));
                }
                return super.scan(tree, none);
            }
        }.scan(root, null);
        return found;
    }

    boolean isConstant(Tree tree) {
        VariableTree field = tree instanceof IdentifierTree ? fields.get(tree.toString()) : null;
        return field != null && field.getModifiers().getFlags().containsAll(
            Set.of(Modifier.STATIC, Modifier.FINAL));
    }

    long lines(MethodTree method) {
        long start = trees.getSourcePositions().getStartPosition(unit, method);
        long end = trees.getSourcePositions().getEndPosition(unit, method);
        return unit.getLineMap().getLineNumber(end) - unit.getLineMap().getLineNumber(start) + 1;
    }

    /** The methods of the class that a tree calls itself. */
    Set<String> calls(Tree tree) {
        Set<String> called = new TreeSet<>();
        for (MethodInvocationTree call : all(tree, MethodInvocationTree.class)) {
            called.add(call.getMethodSelect().toString());
        }
        called.retainAll(methods.keySet());
        return called;
    }

    /** What a tree, and whatever it calls, assigns to; an element of an array as "name[...]". */
    Set<String> changes(Tree tree) {
        Set<String> changed = new TreeSet<>(assigned(tree));
        Set<String> seen = new TreeSet<>();
        Deque<String> open = new ArrayDeque<>(calls(tree));
        while (!open.isEmpty()) {
            String name = open.pop();
            if (seen.add(name)) {
                changed.addAll(assigned(methods.get(name)));
                open.addAll(calls(methods.get(name)));
            }
        }
        return changed;
    }

    private static Set<String> assigned(Tree tree) {
        Set<String> targets = new TreeSet<>();
        for (AssignmentTree a : all(tree, AssignmentTree.class)) {
            targets.add(a.getVariable().toString());
        }
        for (CompoundAssignmentTree a : all(tree, CompoundAssignmentTree.class)) {
            targets.add(a.getVariable().toString());
        }
        for (UnaryTree u : all(tree, UnaryTree.class)) {
            ExpressionTree operand = u.getExpression();
            switch (u.getKind()) {
                case PREFIX_INCREMENT, PREFIX_DECREMENT, POSTFIX_INCREMENT, POSTFIX_DECREMENT ->
                    targets.add(operand.toString());
                default -> {
                }
            }
        }
        return targets;
    }
}
