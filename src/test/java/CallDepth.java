import com.sun.source.tree.CompilationUnitTree;
import com.sun.source.tree.MethodInvocationTree;
import com.sun.source.tree.MethodTree;
import com.sun.source.tree.NewClassTree;
import com.sun.source.util.JavacTask;
import com.sun.source.util.TreePathScanner;
import com.sun.source.util.Trees;
import java.io.IOException;
import java.nio.file.Path;
import java.util.ArrayDeque;
import java.util.ArrayList;
import java.util.Deque;
import java.util.HashMap;
import java.util.HashSet;
import java.util.List;
import java.util.Map;
import java.util.Set;
import java.util.TreeMap;
import java.util.TreeSet;
import javax.lang.model.element.Element;
import javax.tools.JavaCompiler;
import javax.tools.StandardJavaFileManager;
import javax.tools.ToolProvider;

/** Which methods of a source call which: how deep calls go, and which come back to themselves. */
final class CallDepth {
    private final Map<String, Set<String>> calls = new TreeMap<>();
    private final Map<String, Set<String>> circles = new HashMap<>();
    private final Map<Set<String>, List<String>> chains = new HashMap<>();

    CallDepth(Path source) throws IOException {
        JavaCompiler compiler = ToolProvider.getSystemJavaCompiler();
        StandardJavaFileManager files = compiler.getStandardFileManager(null, null, null);
        JavacTask task = (JavacTask) compiler.getTask(null, files, null, List.of("-proc:none"), null, files.getJavaFileObjects(source));
        Iterable<? extends CompilationUnitTree> units = task.parse();
        task.analyze();
        Trees trees = Trees.instance(task);
        for (CompilationUnitTree unit : units) {
            new Finder(trees).scan(unit, "no method");
        }
        findCircles();
    }

    private final class Finder extends TreePathScanner<Void, String> {
        private final Trees trees;

        Finder(Trees trees) {
            this.trees = trees;
        }

        private String nameHere() {
            Element element = trees.getElement(getCurrentPath());
            return element.getEnclosingElement().getSimpleName() + "." + element.getSimpleName();
        }

        private void note(String from) {
            calls.computeIfAbsent(from, key -> new TreeSet<>()).add(nameHere());
            calls.computeIfAbsent(nameHere(), key -> new TreeSet<>());
        }

        @Override
        public Void visitMethod(MethodTree method, String from) {
            calls.computeIfAbsent(nameHere(), key -> new TreeSet<>());
            return super.visitMethod(method, nameHere());
        }

        @Override
        public Void visitMethodInvocation(MethodInvocationTree call, String from) {
            note(from);
            return super.visitMethodInvocation(call, from);
        }

        @Override
        public Void visitNewClass(NewClassTree call, String from) {
            note(from);
            return super.visitNewClass(call, from);
        }
    }

    private Set<String> reached(String from) {
        Set<String> found = new HashSet<>();
        Deque<String> open = new ArrayDeque<>(List.of(from));
        while (!open.isEmpty()) {
            for (String to : calls.get(open.poll())) {
                if (found.add(to)) {
                    open.add(to);
                }
            }
        }
        return found;
    }

    /** Methods that lead to each other, and back, count as one call. */
    private void findCircles() {
        Map<String, Set<String>> reach = new HashMap<>();
        for (String name : calls.keySet()) {
            reach.put(name, reached(name));
        }
        for (String name : calls.keySet()) {
            Set<String> circle = new TreeSet<>(List.of(name));
            for (String other : reach.get(name)) {
                if (reach.get(other).contains(name)) {
                    circle.add(other);
                }
            }
            circles.put(name, circle);
        }
    }

    /** The deepest calls of a method, from itself on. */
    List<String> deepest(String name) {
        Set<String> circle = circles.getOrDefault(name, Set.of());
        List<String> known = chains.get(circle);
        if (known != null) {
            return known;
        }
        List<String> best = List.of();
        for (String from : circle) {
            for (String to : calls.get(from)) {
                List<String> behind = circle.contains(to) ? List.of() : deepest(to);
                best = behind.size() > best.size() ? behind : best;
            }
        }
        List<String> chain = new ArrayList<>(List.of(String.join("/", circle)));
        chain.addAll(best);
        chains.put(circle, chain);
        return chain;
    }

    /** All that come back to themselves. */
    Set<String> recursive() {
        Set<String> found = new TreeSet<>();
        for (String name : calls.keySet()) {
            if (reached(name).contains(name)) {
                found.add(name);
            }
        }
        return found;
    }
}
