import java.io.File;
import java.io.IOException;
import java.lang.reflect.Method;
import java.lang.reflect.Modifier;
import java.net.URL;
import java.net.URLClassLoader;
import java.nio.file.Files;
import java.nio.file.Path;
import java.util.ArrayList;
import java.util.List;
import java.util.Set;
import java.util.TreeSet;
import java.util.regex.Matcher;
import java.util.regex.Pattern;
import javax.tools.ToolProvider;

/** What README.md says of the class's answers is so: its examples are compiled and run, each call against its answer. */
public final class ReadmeTest {
    private static final Pattern CALL =
            Pattern.compile("\\s*(x\\.(\\w+)\\(.*\\));\\s+// (-?\\d+|true|false)(?![\\w.]).*");
    private static final Pattern THROWING =
            Pattern.compile("\\s*(x\\.(\\w+)\\(.*\\));\\s+// throws NoSuchElementException.*");

    private static int calls = 0;
    private static int failed = 0;

    private ReadmeTest() {
    }

    public static void main(String[] args) throws Exception {
        List<String> page = Files.readAllLines(Path.of("README.md"));
        Set<String> shown = new TreeSet<>();
        run(exampleOf(page, shown));
        everyMethodIsShown(shown);
        everyTestIsNamed(String.join("\n", page));
        System.out.println(calls + " answers of README.md, " + failed + " not as due");
        if (failed != 0 || calls == 0) {
            System.exit(1);
        }
    }

    /** The example calls this for each answer that README.md tells. */
    public static void due(String call, Object got, Object told) {
        calls++;
        if (!got.equals(told)) {
            miss(call + " answers " + got + ", README.md says " + told);
        }
    }

    private static void miss(String what) {
        failed++;
        System.out.println(what);
    }

    /** Blocks that begin with a static method are helpers; all others are one row of calls. */
    private static String exampleOf(List<String> page, Set<String> shown) {
        StringBuilder helpers = new StringBuilder();
        StringBuilder row = new StringBuilder();
        boolean inside = false;
        boolean helping = false;
        boolean first = false;
        for (String line : page) {
            if (line.startsWith("```")) {
                inside = line.equals("```java");
                first = true;
                continue;
            }
            if (!inside) {
                continue;
            }
            helping = first ? line.startsWith("static ") : helping;
            first = false;
            (helping ? helpers : row).append(helping ? line : checked(line, shown)).append('\n');
        }
        return "public final class ReadmeExample {\n" + helpers + "public static void run() {\n" + row + "}\n}\n";
    }

    private static String checked(String line, Set<String> shown) {
        Matcher call = CALL.matcher(line);
        Matcher throwing = THROWING.matcher(line);
        if (call.matches()) {
            shown.add(call.group(2));
            return "ReadmeTest.due(" + quoted(call.group(1)) + ", " + call.group(1) + ", " + call.group(3) + ");";
        }
        if (throwing.matches()) {
            String told = quoted(throwing.group(1));
            return "try { ReadmeTest.due(" + told + ", " + throwing.group(1) + ", \"an exception\"); }"
                    + " catch (java.util.NoSuchElementException e) { ReadmeTest.due(" + told + ", 0, 0); }";
        }
        if (line.strip().startsWith("x.")) {
            miss("README.md tells no answer: " + line);
        }
        return line;
    }

    private static String quoted(String text) {
        return '"' + text.replace("\\", "\\\\").replace("\"", "\\\"") + '"';
    }

    private static void run(String source) throws Exception {
        Path out = Files.createTempDirectory("readme");
        Path file = out.resolve("ReadmeExample.java");
        try {
            Files.writeString(file, source);
            String path = System.getProperty("java.class.path");
            int code = ToolProvider.getSystemJavaCompiler().run(null, null, null, "-cp", path, "-d", out.toString(),
                    file.toString());
            if (code != 0) {
                miss("the examples of README.md do not compile");
                return;
            }
            try (URLClassLoader loader = new URLClassLoader(new URL[] {out.toUri().toURL()})) {
                loader.loadClass("ReadmeExample").getMethod("run").invoke(null);
            }
        } finally {
            remove(out);
        }
    }

    private static void remove(Path out) throws IOException {
        for (File file : out.toFile().listFiles()) {
            Files.delete(file.toPath());
        }
        Files.delete(out);
    }

    private static void everyMethodIsShown(Set<String> shown) {
        for (Method m : CellarTurns.class.getDeclaredMethods()) {
            if (Modifier.isPublic(m.getModifiers()) && !shown.contains(m.getName())) {
                miss("README.md does not show " + m.getName());
            }
        }
    }

    private static void everyTestIsNamed(String page) {
        Set<String> there = new TreeSet<>();
        for (String name : new File("src/test/java").list()) {
            if (name.endsWith("Test.java")) {
                there.add(name.substring(0, name.length() - 5));
            }
        }
        Set<String> named = new TreeSet<>();
        Matcher m = Pattern.compile("`(\\w+Test)`").matcher(page);
        while (m.find()) {
            named.add(m.group(1));
        }
        if (!there.equals(named)) {
            miss("README.md names the tests " + named + ", there are " + new ArrayList<>(there));
        }
    }
}
