import java.io.ByteArrayOutputStream;
import java.io.File;
import java.io.PrintStream;
import java.util.ArrayList;
import java.util.HashSet;
import java.util.List;
import java.util.Map;
import java.util.Set;
import java.util.TreeMap;
import java.util.TreeSet;
import java.util.regex.Matcher;
import java.util.regex.Pattern;
import java.util.spi.ToolProvider;

/** What can be seen in the compiled program of the rules of LANGUAGE.md: calls, recursion, library, what is made. */
public final class LanguageTest {
    private static final int MOST_DEEP = 8;
    private static final int MOST_PARAMETERS = 7;
    private static final int MOST_LINES = 60;

    private static final Set<String> LIBRARY = Set.of("java/lang/Object.<init>", "java/lang/Enum.<init>",
            "java/lang/String.length", "java/lang/String.charAt", "java/lang/String.indexOf", "java/lang/Math.max",
            "java/lang/Math.min", "java/lang/Math.floorMod", "java/lang/Integer.bitCount", "java/lang/Long.bitCount",
            "java/lang/Long.numberOfTrailingZeros", "java/lang/System.arraycopy",
            "java/util/NoSuchElementException.<init>");

    private static final Pattern MADE = Pattern.compile(" (new|newarray|anewarray|multianewarray) ");
    private static final Pattern CALLED =
            Pattern.compile("// (?:Interface)?Method (?:\"?([\\w$/\\[;]+)\"?\\.)?\"?(<?\\w+>?)\"?:");
    private static final Pattern HEAD = Pattern.compile("  (?! )(?:.* )?([\\w$]+)\\((.*)\\)(?: throws .*)?;");
    private static final Pattern LINE = Pattern.compile("\\s+line (\\d+): \\d+");

    private static final Map<String, Set<String>> CALLS = new TreeMap<>();
    private static final Set<String> PRIVATE = new HashSet<>();

    private static int failed = 0;
    private static String owner = "";
    private static String method = "";
    private static int firstLine = 0;

    private LanguageTest() {
    }

    public static void main(String[] args) throws Exception {
        List<String> classes = classesOfTheProgram();
        check("classes of the program were found", classes.size() > 1);
        for (String name : classes) {
            owner = name;
            method = "";
            for (String line : listing(name).split("\n")) {
                readLine(line);
            }
        }
        recursionIsPrivate();
        callsAreNotTooDeep();
        System.out.println(failed == 0 ? CALLS.size() + " methods are as due" : failed + " not as due");
        if (failed != 0) {
            System.exit(1);
        }
    }

    private static void check(String what, boolean right) {
        if (!right) {
            failed++;
            System.out.println("not as due: " + what);
        }
    }

    /** All but the class that the compiler makes for a switch over an enum. */
    private static List<String> classesOfTheProgram() throws Exception {
        File here = new File(CellarTurns.class.getProtectionDomain().getCodeSource().getLocation().toURI());
        List<String> names = new ArrayList<>();
        for (String file : new TreeSet<>(List.of(here.list()))) {
            if (file.matches("CellarTurns(\\$[A-Za-z]\\w*)?\\.class")) {
                names.add(file.substring(0, file.length() - ".class".length()));
            }
        }
        return names;
    }

    private static String listing(String name) {
        ByteArrayOutputStream bytes = new ByteArrayOutputStream();
        PrintStream out = new PrintStream(bytes);
        String path = System.getProperty("java.class.path");
        int code = ToolProvider.findFirst("javap").get().run(out, out, "-c", "-p", "-l", "-cp", path, name);
        check("javap of " + name, code == 0);
        return bytes.toString();
    }

    private static void readLine(String line) {
        Matcher head = HEAD.matcher(line);
        if (head.matches()) {
            beginMethod(line, head.group(1), head.group(2));
            return;
        }
        if (line.equals("  static {};")) {
            beginMethod(line, "<clinit>", "");
            return;
        }
        Matcher called = CALLED.matcher(line);
        if (called.find()) {
            noteCall(called.group(1) == null ? owner : called.group(1), called.group(2));
        }
        boolean making = method.contains(".<") || method.equals("CellarTurns.pair") || method.contains("$values");
        check("rule 12, something is made by a call: " + method, making || !MADE.matcher(line).find());
        check("rule 6, a throw in " + method, !line.contains(": athrow") || method.equals("CellarTurns.pair"));
        check("rule 6, a catch in " + method, !line.contains("Exception table:"));
        Matcher number = LINE.matcher(line);
        if (number.matches()) {
            int at = Integer.parseInt(number.group(1));
            firstLine = firstLine == 0 ? at : firstLine;
            check("rule 11, a long method: " + method, method.contains(".<") || at - firstLine < MOST_LINES);
        }
    }

    private static void beginMethod(String line, String name, String parameters) {
        method = owner + "." + (name.equals(owner) ? "<init>" : name);
        firstLine = 0;
        CALLS.computeIfAbsent(method, k -> new TreeSet<>());
        if (line.contains("private ")) {
            PRIVATE.add(method);
        }
        int many = parameters.isEmpty() ? 0 : parameters.split(",").length;
        check("rule 11, parameters of " + method, many <= MOST_PARAMETERS);
    }

    private static void noteCall(String of, String name) {
        if (of.startsWith("CellarTurns")) {
            CALLS.get(method).add(of + "." + name);
            return;
        }
        boolean ofEnum = owner.equals("CellarTurns$Word") && (name.equals("clone") || name.equals("valueOf"));
        check("rule 4, " + of + "." + name + " in " + method, ofEnum || LIBRARY.contains(of + "." + name));
    }

    private static Set<String> reachedFrom(String start) {
        Set<String> reached = new HashSet<>();
        List<String> open = new ArrayList<>(List.of(start));
        while (!open.isEmpty()) {
            for (String next : CALLS.getOrDefault(open.remove(open.size() - 1), Set.of())) {
                if (reached.add(next)) {
                    open.add(next);
                }
            }
        }
        return reached;
    }

    private static boolean recurs(String name) {
        return reachedFrom(name).contains(name);
    }

    private static void recursionIsPrivate() {
        for (String name : CALLS.keySet()) {
            check("rule 8, recursion that is not private: " + name, !recurs(name) || PRIVATE.contains(name));
        }
    }

    private static void callsAreNotTooDeep() {
        for (String name : CALLS.keySet()) {
            int deep = depthFrom(name, new HashSet<>());
            check("rule 11, " + deep + " deep: " + name, deep <= MOST_DEEP);
        }
    }

    /** The calls that stand open at once, without those that are recursion. */
    private static int depthFrom(String name, Set<String> standing) {
        if (!standing.add(name)) {
            return 0;
        }
        int deepest = 0;
        for (String next : CALLS.getOrDefault(name, Set.of())) {
            deepest = Math.max(deepest, depthFrom(next, standing));
        }
        standing.remove(name);
        return deepest + (recurs(name) ? 0 : 1);
    }
}
