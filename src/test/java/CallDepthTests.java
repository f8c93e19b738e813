import com.sun.source.tree.ClassTree;
import com.sun.source.tree.CompilationUnitTree;
import com.sun.source.tree.MethodInvocationTree;
import com.sun.source.tree.MethodTree;
import com.sun.source.tree.NewClassTree;
import com.sun.source.tree.Tree;
import com.sun.source.util.JavacTask;
import com.sun.source.util.TreePathScanner;
import com.sun.source.util.Trees;
import java.io.IOException;
import java.util.ArrayList;
import java.util.HashMap;
import java.util.LinkedHashMap;
import java.util.LinkedHashSet;
import java.util.List;
import java.util.Map;
import java.util.Set;
import javax.lang.model.element.Element;
import javax.lang.model.element.ExecutableElement;
import javax.lang.model.element.Modifier;
import javax.tools.JavaCompiler;
import javax.tools.StandardJavaFileManager;
import javax.tools.ToolProvider;

/**
 * Rule 11 of ../shared/LANGUAGE.md: calls that are no recursion go at most eight deep. Methods that call one another
 * count as one, and the call of the face counts too. Rule 8: what calls itself is private, and carries its depth.
 */
public final class CallDepthTests {
    private static final String SOURCE = "src/main/java/CardBridge.java";
    private static final int DEEPEST = 8;
    private static final Map<Element, Set<Element>> CALLS = new LinkedHashMap<>();
    private static final Map<Element, List<Element>> LONGEST = new HashMap<>();

    public static void main(String[] args) throws IOException {
        readCalls();
        for (Element method : CALLS.keySet()) {
            List<Element> chain = longestFrom(method);
            Check.isTrue("at most " + DEEPEST + " deep go " + chain, chain.size() <= DEEPEST);
            if (reached(method).contains(method)) {
                Check.isTrue(name(method) + " calls itself and is private",
                        method.getModifiers().contains(Modifier.PRIVATE));
                Check.isTrue(name(method) + " calls itself and carries its depth", carriesDepth(method));
            }
        }
        Check.isTrue("run() goes deeper than build()", longest("run") > 4 && longest("build") > 2);
        Check.isTrue("the calls are found", reached(named("safe")).contains(named("findsWay")));
        Check.isTrue("the recursion is found", reached(named("isSum")).contains(named("isSum")));
        Check.end("CallDepthTests");
    }

    private static String name(Element method) {
        return method.getEnclosingElement().getSimpleName() + "." + method;
    }

    private static int longest(String name) {
        return longestFrom(named(name)).size();
    }

    private static Element named(String name) {
        for (Element method : CALLS.keySet()) {
            if (method.getSimpleName().contentEquals(name)) {
                return method;
            }
        }
        throw new IllegalStateException("there is no method " + name);
    }

    private static boolean carriesDepth(Element method) {
        return ((ExecutableElement) method).getParameters().stream().anyMatch(p -> p.getSimpleName().contentEquals("depth"));
    }

    /** All methods that a method calls, and that those call, and so on. */
    private static Set<Element> reached(Element method) {
        Set<Element> found = new LinkedHashSet<>();
        List<Element> open = new ArrayList<>(CALLS.get(method));
        while (!open.isEmpty()) {
            Element next = open.remove(open.size() - 1);
            if (found.add(next)) {
                open.addAll(CALLS.get(next));
            }
        }
        return found;
    }

    private static List<Element> longestFrom(Element method) {
        List<Element> known = LONGEST.get(method);
        if (known != null) {
            return known;
        }
        Set<Element> circle = new LinkedHashSet<>(List.of(method));
        for (Element other : reached(method)) {
            if (reached(other).contains(method)) {
                circle.add(other);
            }
        }
        List<Element> best = List.of();
        for (Element one : circle) {
            for (Element called : CALLS.get(one)) {
                if (!circle.contains(called) && longestFrom(called).size() > best.size()) {
                    best = longestFrom(called);
                }
            }
        }
        List<Element> chain = new ArrayList<>(List.of(method));
        chain.addAll(best);
        LONGEST.put(method, chain);
        return chain;
    }

    private static void readCalls() throws IOException {
        JavaCompiler compiler = ToolProvider.getSystemJavaCompiler();
        try (StandardJavaFileManager files = compiler.getStandardFileManager(null, null, null)) {
            JavacTask task = (JavacTask) compiler.getTask(null, files, null, List.of("-proc:none"), null,
                    files.getJavaFileObjects(SOURCE));
            Iterable<? extends CompilationUnitTree> units = task.parse();
            task.analyze();
            Trees trees = Trees.instance(task);
            for (CompilationUnitTree unit : units) {
                new Reader(trees, false).scan(unit, null);
                new Reader(trees, true).scan(unit, null);
            }
        }
    }

    /** First notes the methods and constructors, then what they call of them. */
    private static final class Reader extends TreePathScanner<Void, Void> {
        private final Trees trees;
        private final boolean areMethodsNoted;
        private Element method = null;

        Reader(Trees trees, boolean areMethodsNoted) {
            this.trees = trees;
            this.areMethodsNoted = areMethodsNoted;
        }

        @Override
        public Void visitClass(ClassTree tree, Void none) {
            Element outer = method;
            method = null;
            super.visitClass(tree, none);
            method = outer;
            return null;
        }

        @Override
        public Void visitMethod(MethodTree tree, Void none) {
            method = trees.getElement(getCurrentPath());
            if (!areMethodsNoted) {
                CALLS.put(method, new LinkedHashSet<>());
            }
            super.visitMethod(tree, none);
            method = null;
            return null;
        }

        @Override
        public Void visitMethodInvocation(MethodInvocationTree tree, Void none) {
            note();
            return super.visitMethodInvocation(tree, none);
        }

        @Override
        public Void visitNewClass(NewClassTree tree, Void none) {
            note();
            return super.visitNewClass(tree, none);
        }

        private void note() {
            Element called = trees.getElement(getCurrentPath());
            if (areMethodsNoted && method != null && CALLS.containsKey(called)) {
                CALLS.get(method).add(called);
            }
        }
    }
}
