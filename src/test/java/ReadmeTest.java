import java.io.ByteArrayOutputStream;
import java.io.File;
import java.io.PrintStream;
import java.lang.reflect.Method;
import java.lang.reflect.Modifier;
import java.net.URL;
import java.net.URLClassLoader;
import java.nio.file.Files;
import java.nio.file.Path;
import java.util.Comparator;
import java.util.List;
import java.util.stream.Stream;
import javax.tools.ToolProvider;

/** README.md: its example compiles and prints what stands behind it, and no call of the face is left out. */
public final class ReadmeTest {
    private static int wrong = 0;

    public static void main(String[] args) throws Exception {
        String page = Files.readString(Path.of("README.md"));
        String printed = run(block(page, "java"));
        check(printed.equals(block(page, "text")), "the example prints\n" + printed);
        namesAllCalls(page);
        namesAllTests(page);
        System.out.println("ReadmeTest: " + wrong + " wrong");
        if (wrong > 0) {
            System.exit(1);
        }
    }

    private static void check(boolean good, String what) {
        if (!good) {
            wrong++;
            System.out.println("ReadmeTest: " + what);
        }
    }

    private static String block(String page, String kind) {
        String start = "```" + kind + "\n";
        int from = page.indexOf(start) + start.length();
        int to = page.indexOf("```", from);
        check(from >= start.length() && to > from, "a block of " + kind);
        return to > from ? page.substring(from, to) : "";
    }

    private static String run(String program) throws Exception {
        Path dir = Files.createTempDirectory("readme");
        try {
            Path file = dir.resolve("Example.java");
            Files.writeString(file, program);
            int code = ToolProvider.getSystemJavaCompiler().run(null, null, null, "-d", dir.toString(),
                "-cp", System.getProperty("java.class.path"), file.toString());
            check(code == 0, "the example compiles");
            return code == 0 ? printedBy(dir) : "";
        } finally {
            try (Stream<Path> all = Files.walk(dir)) {
                all.sorted(Comparator.reverseOrder()).map(Path::toFile).forEach(File::delete);
            }
        }
    }

    private static String printedBy(Path dir) throws Exception {
        PrintStream out = System.out;
        ByteArrayOutputStream held = new ByteArrayOutputStream();
        try (URLClassLoader classes = new URLClassLoader(new URL[] {dir.toUri().toURL()})) {
            System.setOut(new PrintStream(held, true));
            classes.loadClass("Example").getMethod("main", String[].class).invoke(null, (Object) new String[0]);
        } finally {
            System.setOut(out);
        }
        return held.toString().replace(System.lineSeparator(), "\n");
    }

    private static void namesAllCalls(String page) {
        for (Method m : WristGoal.class.getDeclaredMethods()) {
            if (Modifier.isPublic(m.getModifiers())) {
                String call = "`" + m.getName() + "(";
                int at = page.indexOf(call);
                check(at >= 0, "no " + m.getName());
                String told = at < 0 ? "" : page.substring(at + call.length(), page.indexOf(")", at));
                int many = told.isEmpty() ? 0 : told.split(",").length;
                check(many == m.getParameterCount(), m.getName() + " with " + told);
            }
        }
    }

    private static void namesAllTests(String page) throws Exception {
        try (Stream<Path> all = Files.list(Path.of("src/test/java"))) {
            List<String> tests = all.map(p -> p.getFileName().toString()).filter(n -> n.endsWith("Test.java")).toList();
            for (String test : tests) {
                check(page.contains("`" + test.replace(".java", "")), "no " + test);
            }
        }
    }
}
