import com.sun.source.tree.CompilationUnitTree;
import com.sun.source.tree.MethodInvocationTree;
import com.sun.source.tree.MethodTree;
import com.sun.source.tree.NewClassTree;
import com.sun.source.util.JavacTask;
import com.sun.source.util.TreePath;
import com.sun.source.util.TreePathScanner;
import com.sun.source.util.Trees;
import java.io.IOException;
import java.nio.file.Path;
import java.util.ArrayList;
import java.util.List;
import java.util.Map;
import java.util.Set;
import java.util.TreeMap;
import java.util.TreeSet;
import javax.lang.model.element.Element;
import javax.tools.JavaCompiler;
import javax.tools.StandardJavaFileManager;
import javax.tools.ToolProvider;

/** Which method of a source calls which, as the compiler sees it; those of the library are leaves. */
final class Calls {
    private final Map<String, Set<String>> called = new TreeMap<>();

    Calls(Path source) throws IOException {
        JavaCompiler compiler = ToolProvider.getSystemJavaCompiler();
        try (StandardJavaFileManager files = compiler.getStandardFileManager(null, null, null)) {
            JavacTask task = (JavacTask) compiler.getTask(null, files, null, List.of("-proc:none"), null,
                    files.getJavaFileObjects(source));
            List<CompilationUnitTree> units = new ArrayList<>();
            task.parse().forEach(units::add);
            task.analyze();
            Trees trees = Trees.instance(task);
            for (CompilationUnitTree unit : units) {
                new Scanner(trees).scan(new TreePath(unit), null);
            }
        }
    }

    private final class Scanner extends TreePathScanner<Void, Void> {
        private final Trees trees;
        private String inside = "";

        Scanner(Trees trees) {
            this.trees = trees;
        }

        private String nameOf(TreePath path) {
            Element element = trees.getElement(path);
            return element.getEnclosingElement().getSimpleName() + "." + element;
        }

        @Override
        public Void visitMethod(MethodTree tree, Void none) {
            String outside = inside;
            inside = nameOf(getCurrentPath());
            called.putIfAbsent(inside, new TreeSet<>());
            super.visitMethod(tree, none);
            inside = outside;
            return null;
        }

        @Override
        public Void visitMethodInvocation(MethodInvocationTree tree, Void none) {
            note();
            return super.visitMethodInvocation(tree, none);
        }

        @Override
        public Void visitNewClass(NewClassTree tree, Void none) {
            note();
            return super.visitNewClass(tree, none);
        }

        private void note() {
            if (called.containsKey(inside)) {
                called.get(inside).add(nameOf(getCurrentPath()));
            }
        }
    }

    Set<String> methods() {
        return called.keySet();
    }

    /** The longest way of calls, no method twice on it: going round once more is recursion. */
    List<String> longestWay() {
        List<String> longest = new ArrayList<>();
        for (String method : methods()) {
            follow(method, new ArrayList<>(), longest);
        }
        return longest;
    }

    private void follow(String method, List<String> way, List<String> longest) {
        if (way.contains(method)) {
            return;
        }
        way.add(method);
        if (way.size() > longest.size()) {
            longest.clear();
            longest.addAll(way);
        }
        for (String next : called.getOrDefault(method, Set.of())) {
            follow(next, way, longest);
        }
        way.remove(way.size() - 1);
    }

    /** The methods from which a way of calls leads back to themselves. */
    Set<String> recursive() {
        Set<String> found = new TreeSet<>();
        for (String method : methods()) {
            Set<String> reached = new TreeSet<>();
            reach(method, reached);
            if (reached.contains(method)) {
                found.add(method);
            }
        }
        return found;
    }

    private void reach(String method, Set<String> reached) {
        for (String next : called.getOrDefault(method, Set.of())) {
            if (reached.add(next)) {
                reach(next, reached);
            }
        }
    }
}
