import com.sun.source.tree.CompilationUnitTree;
import com.sun.source.tree.MethodInvocationTree;
import com.sun.source.tree.MethodTree;
import com.sun.source.tree.NewClassTree;
import com.sun.source.util.JavacTask;
import com.sun.source.util.TreePath;
import com.sun.source.util.TreePathScanner;
import com.sun.source.util.Trees;
import java.io.IOException;
import java.nio.file.Path;
import java.util.List;
import java.util.Set;
import java.util.TreeMap;
import java.util.TreeSet;
import javax.lang.model.element.Element;
import javax.tools.JavaCompiler;
import javax.tools.StandardJavaFileManager;
import javax.tools.ToolProvider;

/** Which methods and constructors a source's own methods call, as the compiler reads them. */
final class Calls {
    /** By each method or constructor of the source those that it calls, all with their classes' names. */
    private final TreeMap<String, Set<String>> calls = new TreeMap<>();

    Calls(Path source) throws IOException {
        JavaCompiler compiler = ToolProvider.getSystemJavaCompiler();
        try (StandardJavaFileManager files = compiler.getStandardFileManager(null, null, null)) {
            JavacTask task = (JavacTask) compiler.getTask(null, files, null, List.of("-proc:none"), null,
                    files.getJavaFileObjects(source));
            Iterable<? extends CompilationUnitTree> units = task.parse();
            task.analyze();
            Finder finder = new Finder(Trees.instance(task));
            for (CompilationUnitTree unit : units) {
                finder.scan(unit, null);
            }
        }
    }

    private final class Finder extends TreePathScanner<Void, Void> {
        private final Trees trees;
        private String caller = "";

        Finder(Trees trees) {
            this.trees = trees;
        }

        @Override
        public Void visitMethod(MethodTree node, Void none) {
            caller = name(trees.getElement(getCurrentPath()));
            calls.put(caller, new TreeSet<>());
            return super.visitMethod(node, none);
        }

        @Override
        public Void visitMethodInvocation(MethodInvocationTree node, Void none) {
            add(trees.getElement(new TreePath(getCurrentPath(), node.getMethodSelect())));
            return super.visitMethodInvocation(node, none);
        }

        @Override
        public Void visitNewClass(NewClassTree node, Void none) {
            add(trees.getElement(getCurrentPath()));
            return super.visitNewClass(node, none);
        }

        private void add(Element called) {
            calls.computeIfAbsent(caller, each -> new TreeSet<>()).add(name(called));
        }

        private String name(Element method) {
            return method == null ? "unknown" : method.getEnclosingElement() + "." + method;
        }
    }

    /** All that is called and is none of the source's own. */
    Set<String> ofLibrary() {
        Set<String> found = new TreeSet<>();
        for (Set<String> called : calls.values()) {
            found.addAll(called);
        }
        found.removeAll(calls.keySet());
        return found;
    }

    /** How many own methods stand open at once at the most; far more than there are if one calls itself. */
    int deepest() {
        int deepest = 0;
        for (String method : calls.keySet()) {
            deepest = Math.max(deepest, depth(method, 0));
        }
        return deepest;
    }

    private int depth(String method, int above) {
        int deepest = above + 1;
        if (above > calls.size()) {
            return 1000;
        }
        for (String called : calls.get(method)) {
            deepest = calls.containsKey(called) ? Math.max(deepest, depth(called, above + 1)) : deepest;
        }
        return deepest;
    }
}
