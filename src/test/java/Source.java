import com.sun.source.tree.ClassTree;
import com.sun.source.tree.CompilationUnitTree;
import com.sun.source.tree.IdentifierTree;
import com.sun.source.tree.LiteralTree;
import com.sun.source.tree.MethodInvocationTree;
import com.sun.source.tree.MethodTree;
import com.sun.source.tree.ModifiersTree;
import com.sun.source.tree.Tree;
import com.sun.source.tree.VariableTree;
import com.sun.source.util.JavacTask;
import com.sun.source.util.SourcePositions;
import com.sun.source.util.TreePath;
import com.sun.source.util.TreeScanner;
import com.sun.source.util.Trees;
import java.io.IOException;
import java.io.UncheckedIOException;
import java.nio.file.Path;
import java.util.ArrayList;
import java.util.List;
import java.util.Set;
import java.util.TreeSet;
import javax.lang.model.element.Modifier;
import javax.tools.JavaCompiler;
import javax.tools.StandardJavaFileManager;
import javax.tools.ToolProvider;

/** The text of a Java file with one class, as the compiler's syntax tree. */
final class Source {
    final CompilationUnitTree unit;
    private final SourcePositions positions;

    Source(String file) {
        JavaCompiler compiler = ToolProvider.getSystemJavaCompiler();
        try (StandardJavaFileManager files = compiler.getStandardFileManager(null, null, null)) {
            JavacTask task = (JavacTask) compiler.getTask(
                null, files, null, null, null, files.getJavaFileObjects(Path.of(file)));
            unit = task.parse().iterator().next();
            positions = Trees.instance(task).getSourcePositions();
        } catch (IOException fault) {
            throw new UncheckedIOException(fault);
        }
    }

    ClassTree theClass() {
        return (ClassTree) unit.getTypeDecls().get(0);
    }

    /** Every part of the file, or of a part of it, that is of the kind. */
    <T> List<T> all(Class<T> kind) {
        return all(kind, unit);
    }

    static <T> List<T> all(Class<T> kind, Tree within) {
        List<T> found = new ArrayList<>();
        new TreeScanner<Void, Void>() {
            @Override
            public Void scan(Tree tree, Void nothing) {
                if (kind.isInstance(tree)) {
                    found.add(kind.cast(tree));
                }
                return super.scan(tree, nothing);
            }
        }.scan(within, null);
        return found;
    }

    /** The class's own fields, methods or blocks. */
    <T> List<T> members(Class<T> kind) {
        List<T> found = new ArrayList<>();
        for (Tree member : theClass().getMembers()) {
            if (kind.isInstance(member)) {
                found.add(kind.cast(member));
            }
        }
        return found;
    }

    /** The names that the class gives to anything at all. */
    Set<String> names() {
        Set<String> names = new TreeSet<>();
        all(VariableTree.class).forEach(variable -> names.add(variable.getName().toString()));
        all(MethodTree.class).forEach(method -> names.add(method.getName().toString()));
        return names;
    }

    static boolean has(ModifiersTree modifiers, Modifier one) {
        return modifiers.getFlags().contains(one);
    }

    /** A literal, or one of the class's constants. */
    boolean isConstant(Tree tree) {
        if (tree instanceof LiteralTree) {
            return true;
        }
        return tree instanceof IdentifierTree && members(VariableTree.class).stream().anyMatch(
            field -> has(field.getModifiers(), Modifier.STATIC) && field.getName().contentEquals(tree.toString()));
    }

    /** The names of the methods that a part of the file calls. */
    static Set<String> calls(Tree within) {
        Set<String> names = new TreeSet<>();
        all(MethodInvocationTree.class, within).forEach(call -> names.add(call.getMethodSelect().toString()));
        return names;
    }

    Tree parentOf(Tree tree) {
        return TreePath.getPath(unit, tree).getParentPath().getLeaf();
    }

    long lineOf(Tree tree) {
        return unit.getLineMap().getLineNumber(positions.getStartPosition(unit, tree));
    }

    long lines(Tree tree) {
        return unit.getLineMap().getLineNumber(positions.getEndPosition(unit, tree)) - lineOf(tree) + 1;
    }
}
