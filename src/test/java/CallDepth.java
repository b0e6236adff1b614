import com.sun.source.tree.CompilationUnitTree;
import com.sun.source.tree.MethodInvocationTree;
import com.sun.source.tree.MethodTree;
import com.sun.source.tree.NewClassTree;
import com.sun.source.tree.Tree;
import com.sun.source.util.JavacTask;
import com.sun.source.util.TreePath;
import com.sun.source.util.TreePathScanner;
import com.sun.source.util.Trees;
import java.io.IOException;
import java.util.ArrayList;
import java.util.HashSet;
import java.util.LinkedHashMap;
import java.util.LinkedHashSet;
import java.util.List;
import java.util.Map;
import java.util.Set;
import javax.lang.model.element.Element;

/** The longest chain of calls in a source, the first method and the library's one counted, recursion left out. */
final class CallDepth extends TreePathScanner<Void, Element> {
    private final Trees trees;
    private final Map<Element, Set<Element>> calls = new LinkedHashMap<>();

    CallDepth(JavacTask task, Iterable<? extends CompilationUnitTree> units) throws IOException {
        trees = Trees.instance(task);
        task.analyze();
        for (CompilationUnitTree unit : units) {
            scan(unit, null);
        }
    }

    @Override
    public Void visitMethod(MethodTree tree, Element caller) {
        Element method = trees.getElement(getCurrentPath());
        calls.putIfAbsent(method, new LinkedHashSet<>());
        return super.visitMethod(tree, method);
    }

    @Override
    public Void visitMethodInvocation(MethodInvocationTree tree, Element caller) {
        note(tree, caller);
        return super.visitMethodInvocation(tree, caller);
    }

    @Override
    public Void visitNewClass(NewClassTree tree, Element caller) {
        note(tree, caller);
        return super.visitNewClass(tree, caller);
    }

    private void note(Tree call, Element caller) {
        Element called = trees.getElement(new TreePath(getCurrentPath().getParentPath(), call));
        if (caller != null && called != null) {
            calls.get(caller).add(called);
        }
    }

    List<String> longestChain() {
        List<String> longest = List.of();
        for (Element method : calls.keySet()) {
            List<String> chain = chainFrom(method, new HashSet<>());
            if (chain.size() > longest.size()) longest = chain;
        }
        return longest;
    }

    private List<String> chainFrom(Element method, Set<Element> open) {
        List<String> longest = List.of();
        open.add(method);
        for (Element called : calls.getOrDefault(method, Set.of())) {
            if (open.contains(called)) continue;
            List<String> chain = chainFrom(called, open);
            if (chain.size() > longest.size()) longest = chain;
        }
        open.remove(method);
        List<String> all = new ArrayList<>();
        all.add(method.getEnclosingElement().getSimpleName() + "." + method.getSimpleName());
        all.addAll(longest);
        return all;
    }
}
