import com.sun.source.tree.CompilationUnitTree;
import com.sun.source.tree.MethodInvocationTree;
import com.sun.source.tree.MethodTree;
import com.sun.source.tree.NewClassTree;
import com.sun.source.util.JavacTask;
import com.sun.source.util.TreePathScanner;
import com.sun.source.util.Trees;
import java.nio.file.Path;
import java.util.ArrayList;
import java.util.List;
import java.util.Map;
import java.util.Set;
import java.util.TreeMap;
import java.util.TreeSet;
import javax.lang.model.element.Element;
import javax.lang.model.element.ExecutableElement;
import javax.lang.model.element.Modifier;
import javax.tools.JavaCompiler;
import javax.tools.StandardJavaFileManager;
import javax.tools.ToolProvider;

/** LANGUAGE.md 8 and 11: no call comes back to itself, and calls go at most eight deep, the library's counted too. */
public final class DepthTest {
    private static final int DEEPEST = 8;
    private static int wrong = 0;

    /** Who calls whom, from each method of the source on. */
    private static final class Calls extends TreePathScanner<Void, String> {
        final Map<String, Set<String>> from = new TreeMap<>();
        final Set<String> face = new TreeSet<>();
        private final Trees trees;

        Calls(Trees trees) {
            this.trees = trees;
        }

        @Override
        public Void visitMethod(MethodTree method, String caller) {
            Element self = trees.getElement(getCurrentPath());
            String name = nameOf(self);
            from.putIfAbsent(name, new TreeSet<>());
            if (self.getModifiers().contains(Modifier.PUBLIC)) {
                face.add(name);
            }
            return super.visitMethod(method, name);
        }

        @Override
        public Void visitMethodInvocation(MethodInvocationTree call, String caller) {
            add(caller);
            return super.visitMethodInvocation(call, caller);
        }

        @Override
        public Void visitNewClass(NewClassTree made, String caller) {
            add(caller);
            return super.visitNewClass(made, caller);
        }

        /** What stands outside of all methods belongs to the constructor of the class that it stands in. */
        private void add(String caller) {
            Element called = trees.getElement(getCurrentPath());
            from.computeIfAbsent(caller == null ? constructorHere() : caller, k -> new TreeSet<>()).add(nameOf(called));
        }

        private String constructorHere() {
            return trees.getScope(getCurrentPath()).getEnclosingClass() + ".<init>";
        }

        /** Methods of one name with other parameters are one here: that can only make a way seem longer. */
        private static String nameOf(Element method) {
            return ((ExecutableElement) method).getEnclosingElement() + "." + method.getSimpleName();
        }
    }

    public static void main(String[] args) throws Exception {
        Calls calls = read(Path.of("src/main/java/WristGoal.java"));
        check(calls.face.size() == 41, "the face has 40 methods and a constructor, found " + calls.face.size());
        int deepest = 0;
        for (String start : calls.face) {
            deepest = Math.max(deepest, depth(calls, start, new ArrayList<>()));
        }
        System.out.println("DepthTest: " + calls.from.size() + " methods, " + deepest + " deep, " + wrong + " wrong");
        if (wrong > 0) {
            System.exit(1);
        }
    }

    private static void check(boolean good, String what) {
        if (!good) {
            wrong++;
            System.out.println("DepthTest: " + what);
        }
    }

    private static Calls read(Path source) throws Exception {
        JavaCompiler compiler = ToolProvider.getSystemJavaCompiler();
        try (StandardJavaFileManager files = compiler.getStandardFileManager(null, null, null)) {
            JavacTask task = (JavacTask) compiler.getTask(null, files, null, List.of("-proc:none"), null,
                files.getJavaFileObjects(source));
            Iterable<? extends CompilationUnitTree> units = task.parse();
            task.analyze();
            Calls calls = new Calls(Trees.instance(task));
            calls.scan(units, null);
            return calls;
        }
    }

    private static int depth(Calls calls, String name, List<String> way) {
        if (way.contains(name)) {
            check(false, name + " comes back to itself: " + way);
            return 0;
        }
        way.add(name);
        check(way.size() <= DEEPEST, way.size() + " deep: " + way);
        int most = 0;
        for (String called : calls.from.getOrDefault(name, Set.of())) {
            most = Math.max(most, depth(calls, called, way));
        }
        way.remove(way.size() - 1);
        return 1 + most;
    }
}
