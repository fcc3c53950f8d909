import com.sun.source.tree.CompilationUnitTree;
import com.sun.source.tree.MethodTree;
import com.sun.source.tree.Tree;
import com.sun.source.util.JavacTask;
import com.sun.source.util.TreePath;
import com.sun.source.util.TreePathScanner;
import com.sun.source.util.Trees;
import java.io.IOException;
import java.nio.file.Files;
import java.nio.file.Path;
import java.util.ArrayList;
import java.util.EnumMap;
import java.util.List;
import java.util.Map;
import javax.lang.model.element.Element;
import javax.lang.model.type.TypeMirror;
import javax.tools.JavaCompiler;
import javax.tools.StandardJavaFileManager;
import javax.tools.ToolProvider;

/** A file of Java as the compiler sees it: every part of it by its kind, with names and types. */
final class Source extends TreePathScanner<Void, Void> {
    final String text;
    final CompilationUnitTree unit;
    private final Trees trees;
    private final Map<Tree.Kind, List<TreePath>> byKind = new EnumMap<>(Tree.Kind.class);

    private Source(String text, CompilationUnitTree unit, Trees trees) {
        this.text = text;
        this.unit = unit;
        this.trees = trees;
        scan(new TreePath(unit), null);
    }

    static Source of(Path file) throws IOException {
        JavaCompiler compiler = ToolProvider.getSystemJavaCompiler();
        StandardJavaFileManager files = compiler.getStandardFileManager(null, null, null);
        JavacTask task = (JavacTask) compiler.getTask(null, files, null, List.of("-proc:none"),
                null, files.getJavaFileObjects(file));
        CompilationUnitTree unit = task.parse().iterator().next();
        task.analyze();
        return new Source(Files.readString(file), unit, Trees.instance(task));
    }

    @Override
    public Void scan(Tree tree, Void nothing) {
        if (tree != null) {
            byKind.computeIfAbsent(tree.getKind(), kind -> new ArrayList<>())
                    .add(new TreePath(getCurrentPath(), tree));
        }
        return super.scan(tree, nothing);
    }

    List<TreePath> all(Tree.Kind... kinds) {
        List<TreePath> found = new ArrayList<>();
        for (Tree.Kind kind : kinds) {
            found.addAll(byKind.getOrDefault(kind, List.of()));
        }
        return found;
    }

    /** What stands there, with the number of its line. */
    String at(TreePath path) {
        return "line " + line(start(path.getLeaf())) + ": " + words(path.getLeaf());
    }

    String words(Tree tree) {
        long end = trees.getSourcePositions().getEndPosition(unit, tree);
        // What the compiler adds by itself, like super(), has no words.
        return end < 0 ? "" : text.substring((int) start(tree), (int) end);
    }

    long lines(Tree tree) {
        return words(tree).lines().count();
    }

    private long start(Tree tree) {
        return trees.getSourcePositions().getStartPosition(unit, tree);
    }

    private long line(long position) {
        return unit.getLineMap().getLineNumber(position);
    }

    Element element(TreePath path) {
        return trees.getElement(path);
    }

    TypeMirror type(TreePath path) {
        return trees.getTypeMirror(path);
    }

    TypeMirror type(TreePath parent, Tree part) {
        return trees.getTypeMirror(new TreePath(parent, part));
    }

    /** The next part of this kind that this stands in, or null. */
    static TreePath around(TreePath path, Tree.Kind... kinds) {
        for (TreePath up = path.getParentPath(); up != null; up = up.getParentPath()) {
            if (List.of(kinds).contains(up.getLeaf().getKind())) {
                return up;
            }
        }
        return null;
    }

    /** The method in which this stands, or null for a field. */
    static MethodTree method(TreePath path) {
        TreePath found = around(path, Tree.Kind.METHOD);
        return found == null ? null : (MethodTree) found.getLeaf();
    }
}
