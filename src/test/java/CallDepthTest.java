import com.sun.source.tree.ClassTree;
import com.sun.source.tree.CompilationUnitTree;
import com.sun.source.tree.MethodInvocationTree;
import com.sun.source.tree.MethodTree;
import com.sun.source.tree.NewClassTree;
import com.sun.source.util.JavacTask;
import com.sun.source.util.TreePathScanner;
import com.sun.source.util.Trees;
import java.io.IOException;
import java.util.HashMap;
import java.util.LinkedHashSet;
import java.util.List;
import java.util.Map;
import java.util.Set;
import javax.lang.model.element.Element;
import javax.tools.JavaCompiler;
import javax.tools.JavaFileObject;
import javax.tools.StandardJavaFileManager;
import javax.tools.ToolProvider;

/** Who calls whom in the class: rules 8 and 11 of LANGUAGE.md. */
public final class CallDepthTest {
    private static final int DEEPEST = 8;
    private static final Checks checks = new Checks();

    /** Of each method of the file, which others of it it calls. */
    private static final Map<Element, Set<Element>> calls = new HashMap<>();

    private static final class Reader extends TreePathScanner<Void, Void> {
        private final Trees trees;
        private Element in;

        Reader(Trees trees) {
            this.trees = trees;
        }

        @Override
        public Void visitMethod(MethodTree method, Void none) {
            Element outer = in;
            in = trees.getElement(getCurrentPath());
            calls.computeIfAbsent(in, key -> new LinkedHashSet<>());
            super.visitMethod(method, none);
            in = outer;
            return null;
        }

        @Override
        public Void visitMethodInvocation(MethodInvocationTree call, Void none) {
            called();
            return super.visitMethodInvocation(call, none);
        }

        @Override
        public Void visitNewClass(NewClassTree made, Void none) {
            called();
            return super.visitNewClass(made, none);
        }

        private void called() {
            Element callee = trees.getElement(getCurrentPath());
            if (in != null && callee != null) {
                calls.get(in).add(callee);
            }
        }

        @Override
        public Void visitClass(ClassTree inside, Void none) {
            Element outer = in;
            in = null;
            super.visitClass(inside, none);
            in = outer;
            return null;
        }
    }

    private static void read() throws IOException {
        JavaCompiler compiler = ToolProvider.getSystemJavaCompiler();
        try (StandardJavaFileManager files = compiler.getStandardFileManager(null, null, null)) {
            Iterable<? extends JavaFileObject> sources = files.getJavaFileObjects("src/main/java/NewOrBack.java");
            JavacTask task = (JavacTask) compiler.getTask(null, files, null, List.of("-proc:none"), null, sources);
            for (CompilationUnitTree unit : task.parse()) {
                task.analyze();
                new Reader(Trees.instance(task)).scan(unit, null);
            }
        }
    }

    /** How many methods the longest row of calls from one on has, in which none comes twice. */
    private static int depth(Element method, Set<Element> above) {
        int deepest = 0;
        if (calls.containsKey(method) && above.add(method)) {
            for (Element callee : calls.get(method)) {
                deepest = Math.max(deepest, depth(callee, above));
            }
            above.remove(method);
            deepest++;
        }
        return deepest;
    }

    private static boolean callsItself(Element method, Element at, Set<Element> seen) {
        for (Element callee : calls.getOrDefault(at, Set.of())) {
            if (callee.equals(method) || seen.add(callee) && callsItself(method, callee, seen)) {
                return true;
            }
        }
        return false;
    }

    private static void recursion() {
        Set<String> due = Set.of("goesOn", "goesOnBack", "goesOnNew", "escapes", "escapesBack", "escapesNew", "endsWell");
        for (Element method : calls.keySet()) {
            String name = method.getSimpleName().toString();
            boolean isRecursion = callsItself(method, method, new LinkedHashSet<>());
            boolean ofASearch = due.contains(name) && !method.getEnclosingElement().toString().endsWith("Wood");
            checks.isTrue(method.getEnclosingElement() + "." + method + " calls itself: " + isRecursion,
                    isRecursion == ofASearch);
        }
    }

    public static void main(String[] args) throws IOException {
        read();
        checks.isTrue("the methods of the face and of the classes inside were read", calls.size() > 80);
        for (Element method : calls.keySet()) {
            int depth = depth(method, new LinkedHashSet<>());
            checks.isTrue(method.getEnclosingElement() + "." + method + " goes " + depth + " deep", depth <= DEEPEST);
        }
        recursion();
        checks.end();
    }
}
