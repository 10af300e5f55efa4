import com.sun.source.tree.CompilationUnitTree;
import com.sun.source.tree.MethodTree;
import com.sun.source.tree.Tree;
import com.sun.source.tree.VariableTree;
import com.sun.source.util.JavacTask;
import com.sun.source.util.TreePath;
import com.sun.source.util.TreePathScanner;
import com.sun.source.util.Trees;
import java.io.File;
import java.io.IOException;
import java.io.UncheckedIOException;
import java.util.ArrayList;
import java.util.List;
import java.util.Set;
import java.util.function.Predicate;
import javax.tools.JavaCompiler;
import javax.tools.StandardJavaFileManager;
import javax.tools.ToolProvider;

/** A Java file as the compiler reads it. */
final class Source {
    final CompilationUnitTree unit;
    private final Trees trees;
    private final List<TreePath> parts = new ArrayList<>();

    Source(String file) {
        JavaCompiler compiler = ToolProvider.getSystemJavaCompiler();
        try (StandardJavaFileManager files = compiler.getStandardFileManager(null, null, null)) {
            JavacTask task = (JavacTask) compiler.getTask(null, files, null, null, null,
                files.getJavaFileObjects(new File(file)));
            unit = task.parse().iterator().next();
            trees = Trees.instance(task);
        } catch (IOException thrown) {
            throw new UncheckedIOException(thrown);
        }
        new TreePathScanner<Void, Void>() {
            @Override
            public Void scan(Tree part, Void nothing) {
                if (part != null && getCurrentPath() != null) {
                    parts.add(new TreePath(getCurrentPath(), part));
                }
                return super.scan(part, nothing);
            }
        }.scan(new TreePath(unit), null);
    }

    List<TreePath> partsOf(Set<Tree.Kind> kinds) {
        return parts.stream().filter(part -> kinds.contains(part.getLeaf().getKind())).toList();
    }

    List<MethodTree> methods() {
        return partsOf(Set.of(Tree.Kind.METHOD)).stream().map(part -> (MethodTree) part.getLeaf()).toList();
    }

    List<VariableTree> fields() {
        return variables(Source::isField);
    }

    List<VariableTree> variablesInMethods() {
        return variables(part -> !isField(part));
    }

    int linesOf(Tree part) {
        long first = trees.getSourcePositions().getStartPosition(unit, part);
        long last = trees.getSourcePositions().getEndPosition(unit, part);
        return (int) (unit.getLineMap().getLineNumber(last) - unit.getLineMap().getLineNumber(first)) + 1;
    }

    static boolean isField(TreePath part) {
        return part.getLeaf().getKind() == Tree.Kind.VARIABLE
            && part.getParentPath().getLeaf().getKind() == Tree.Kind.CLASS;
    }

    private List<VariableTree> variables(Predicate<TreePath> wanted) {
        return partsOf(Set.of(Tree.Kind.VARIABLE)).stream().filter(wanted)
            .map(part -> (VariableTree) part.getLeaf()).toList();
    }
}
