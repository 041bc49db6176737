import com.sun.source.tree.MethodInvocationTree;
import com.sun.source.tree.MethodTree;
import com.sun.source.tree.NewClassTree;
import com.sun.source.tree.Tree;
import com.sun.source.util.TreePathScanner;
import com.sun.source.util.Trees;
import java.util.ArrayList;
import java.util.HashMap;
import java.util.LinkedHashMap;
import java.util.LinkedHashSet;
import java.util.List;
import java.util.Map;
import java.util.Set;
import javax.lang.model.element.Element;

/** Which method of the program calls which, constructors too. */
final class CallGraph extends TreePathScanner<Void, Void> {
    private final Trees trees;
    private final Map<Element, Set<Element>> calls = new LinkedHashMap<>();
    private final Map<Element, List<String>> longest = new HashMap<>();
    private final List<Element> open = new ArrayList<>();
    private String recursion = "none";
    private Element caller;

    CallGraph(Trees trees) {
        this.trees = trees;
    }

    @Override
    public Void visitMethod(MethodTree tree, Void nothing) {
        caller = trees.getElement(getCurrentPath());
        calls.put(caller, new LinkedHashSet<>());
        super.visitMethod(tree, nothing);
        caller = null;
        return null;
    }

    @Override
    public Void visitMethodInvocation(MethodInvocationTree tree, Void nothing) {
        note(tree);
        return super.visitMethodInvocation(tree, nothing);
    }

    @Override
    public Void visitNewClass(NewClassTree tree, Void nothing) {
        note(tree);
        return super.visitNewClass(tree, nothing);
    }

    private void note(Tree tree) {
        Element called = trees.getElement(getCurrentPath());
        if (caller != null && called != null) {
            calls.get(caller).add(called);
        }
    }

    /** The longest chain of calls of the program's own methods. */
    List<String> deepest() {
        List<String> deepest = List.of();
        for (Element method : calls.keySet()) {
            List<String> chain = longestFrom(method);
            deepest = chain.size() > deepest.size() ? chain : deepest;
        }
        return deepest;
    }

    String recursion() {
        deepest();
        return recursion;
    }

    private List<String> longestFrom(Element method) {
        if (open.contains(method)) {
            recursion = method.toString();
            return List.of();
        }
        if (!longest.containsKey(method)) {
            open.add(method);
            List<String> behind = List.of();
            for (Element called : calls.get(method)) {
                List<String> chain = calls.containsKey(called) ? longestFrom(called) : List.of();
                behind = chain.size() > behind.size() ? chain : behind;
            }
            open.remove(method);
            List<String> chain = new ArrayList<>(List.of(method.getEnclosingElement().getSimpleName() + "." + method));
            chain.addAll(behind);
            longest.put(method, chain);
        }
        return longest.get(method);
    }
}
