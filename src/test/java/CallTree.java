import com.sun.source.tree.ClassTree;
import com.sun.source.tree.CompilationUnitTree;
import com.sun.source.tree.MethodInvocationTree;
import com.sun.source.tree.MethodTree;
import com.sun.source.tree.NewClassTree;
import com.sun.source.util.JavacTask;
import com.sun.source.util.TreePath;
import com.sun.source.util.TreePathScanner;
import com.sun.source.util.Trees;
import java.io.IOException;
import java.nio.file.Path;
import java.util.ArrayDeque;
import java.util.ArrayList;
import java.util.Deque;
import java.util.LinkedHashMap;
import java.util.LinkedHashSet;
import java.util.List;
import java.util.Map;
import java.util.Set;
import javax.lang.model.element.Element;
import javax.tools.JavaCompiler;
import javax.tools.StandardJavaFileManager;
import javax.tools.ToolProvider;

/** Which method of a source file calls which, as the compiler reads it; the library's own methods are ends. */
final class CallTree extends TreePathScanner<Void, Void> {
    private final Map<Element, Set<Element>> callees = new LinkedHashMap<>();
    private final Deque<Element> callers = new ArrayDeque<>();
    private Trees trees;

    static CallTree of(Path file) throws IOException {
        JavaCompiler compiler = ToolProvider.getSystemJavaCompiler();
        CallTree tree = new CallTree();
        try (StandardJavaFileManager files = compiler.getStandardFileManager(null, null, null)) {
            JavacTask task = (JavacTask) compiler.getTask(null, files, null, List.of("--release", "17", "-proc:none"),
                    null, files.getJavaFileObjects(file));
            Iterable<? extends CompilationUnitTree> units = task.parse();
            task.analyze();
            tree.trees = Trees.instance(task);
            tree.scan(units, null);
        }
        return tree;
    }

    /** The longest chain of calls, the first method and the last one included; one that calls itself is told. */
    List<String> longestChain() {
        List<String> longest = new ArrayList<>();
        for (Element method : callees.keySet()) {
            List<String> chain = chainFrom(method, new LinkedHashSet<>());
            longest = chain.size() > longest.size() ? chain : longest;
        }
        return longest;
    }

    private List<String> chainFrom(Element method, Set<Element> open) {
        if (!open.add(method)) {
            throw new IllegalStateException("a recursion through " + method);
        }
        List<String> longest = new ArrayList<>();
        for (Element callee : callees.getOrDefault(method, Set.of())) {
            List<String> chain = chainFrom(callee, open);
            longest = chain.size() > longest.size() ? chain : longest;
        }
        open.remove(method);
        longest.add(0, method.getEnclosingElement().getSimpleName() + "." + method);
        return longest;
    }

    private void visitCall(Element callee) {
        callees.computeIfAbsent(callers.element(), k -> new LinkedHashSet<>()).add(callee);
    }

    /** A class stands as the caller of what its fields begin with. */
    @Override
    public Void visitClass(ClassTree node, Void nothing) {
        callers.push(trees.getElement(getCurrentPath()));
        super.visitClass(node, nothing);
        callers.pop();
        return null;
    }

    @Override
    public Void visitMethod(MethodTree node, Void nothing) {
        Element method = trees.getElement(getCurrentPath());
        callees.computeIfAbsent(method, k -> new LinkedHashSet<>());
        callers.push(method);
        super.visitMethod(node, nothing);
        callers.pop();
        return null;
    }

    @Override
    public Void visitMethodInvocation(MethodInvocationTree node, Void nothing) {
        visitCall(trees.getElement(new TreePath(getCurrentPath(), node.getMethodSelect())));
        return super.visitMethodInvocation(node, nothing);
    }

    @Override
    public Void visitNewClass(NewClassTree node, Void nothing) {
        visitCall(trees.getElement(getCurrentPath()));
        return super.visitNewClass(node, nothing);
    }
}
