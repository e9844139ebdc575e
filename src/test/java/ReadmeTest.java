import java.io.ByteArrayOutputStream;
import java.io.IOException;
import java.io.PrintStream;
import java.lang.reflect.Array;
import java.lang.reflect.Field;
import java.lang.reflect.Method;
import java.lang.reflect.Modifier;
import java.net.URL;
import java.net.URLClassLoader;
import java.nio.charset.StandardCharsets;
import java.nio.file.Files;
import java.nio.file.Path;
import java.util.ArrayList;
import java.util.Comparator;
import java.util.List;
import java.util.Map;
import java.util.TreeMap;
import java.util.regex.Matcher;
import java.util.regex.Pattern;
import java.util.stream.Stream;
import javax.tools.JavaCompiler;
import javax.tools.ToolProvider;

/** README.md's examples answer as it says that they do, and its numbers and names are the class's. */
public final class ReadmeTest {
    private static final Path README = Path.of("README.md");
    private static final Path SOURCE = Path.of("src/main/java/ShrinkingCalls.java");
    private static final Path TESTS = Path.of("src/test/java");

    /** A row of an example that answers: the call, and the answer that the page tells behind it. */
    private static final Pattern ANSWERED = Pattern.compile("((?:x\\.|tell\\().*\\));\\s+// (-?\\d+)(?:: .*)?");

    private static int wrong = 0;

    private record Block(String language, String text) { }

    private static void holds(boolean yes, String what) {
        if (!yes) {
            wrong++;
            System.out.println("README.md: " + what);
        }
    }

    public static void main(String[] args) throws Exception {
        String page = Files.readString(README);
        Path out = Files.createTempDirectory("readme");
        try {
            examplesAnswerAsTold(blocks(page), out);
            aPackageLineAtItsHeadWillDo(out);
        } finally {
            remove(out);
        }
        constantsAreTheClasss(page);
        everyCallIsTold(page);
        everyTestIsNamed(page);
        anObjectIsAsLargeAsTold(page);
        System.out.println(wrong == 0 ? "README.md says what is so" : wrong + " things that README.md says are not so");
        if (wrong != 0) System.exit(1);
    }

    private static List<Block> blocks(String page) {
        List<Block> all = new ArrayList<>();
        Matcher m = Pattern.compile("^```(\\w*)\n(.*?)^```$", Pattern.DOTALL | Pattern.MULTILINE).matcher(page);
        while (m.find()) all.add(new Block(m.group(1), m.group(2)));
        return all;
    }

    // ---- examples

    private static void examplesAnswerAsTold(List<Block> blocks, Path out) throws Exception {
        StringBuilder rows = new StringBuilder();
        String program = "";
        String prints = "";
        for (int i = 0; i < blocks.size(); i++) {
            Block b = blocks.get(i);
            if (!b.language().equals("java")) continue;
            if (!b.text().contains("class Example")) {
                rows.append(checked(b.text()));
                continue;
            }
            program = b.text();
            prints = i + 1 < blocks.size() ? blocks.get(i + 1).text() : "";
        }
        holds(!program.isEmpty(), "there is an example program");
        Path example = Files.writeString(out.resolve("Example.java"), program);
        Path run = Files.writeString(out.resolve("ReadmeRun.java"), runOf(rows.toString()));
        if (!compiles(out, example, run)) return;
        try (URLClassLoader loader = new URLClassLoader(new URL[] {out.toUri().toURL()}, ReadmeTest.class.getClassLoader())) {
            String printed = printedBy(loader.loadClass("Example"));
            holds(printed.equals(prints), "the example program printed\n" + printed);
            String faults = printedBy(loader.loadClass("ReadmeRun"));
            holds(faults.isEmpty(), "examples that answer otherwise:\n" + faults);
        }
        for (Method m : face()) holds(rows.indexOf("x." + m.getName() + "(") >= 0, "no example of " + m.getName());
    }

    private static String checked(String block) {
        StringBuilder b = new StringBuilder();
        for (String row : block.split("\n")) {
            Matcher m = ANSWERED.matcher(row);
            if (m.matches()) {
                String told = m.group(1).replace("\\", "\\\\").replace("\"", "\\\"");
                b.append("due(\"").append(told).append("\", ").append(m.group(1)).append(", ").append(m.group(2)).append(");\n");
            } else {
                holds(!row.startsWith("x.") && !row.startsWith("tell("), "no answer is told of " + row);
                b.append(row).append('\n');
            }
        }
        return b.toString();
    }

    private static String runOf(String rows) {
        return "public final class ReadmeRun {\n"
                + "static int tell(ShrinkingCalls x, String text) { return Example.tell(x, text); }\n"
                + "static void due(String call, long got, long told) {\n"
                + "if (got != told) System.out.println(call + \" answered \" + got + \", told is \" + told);\n"
                + "}\n"
                + "public static void main(String[] args) {\n" + rows + "}\n}\n";
    }

    private static boolean compiles(Path out, Path... files) {
        JavaCompiler compiler = ToolProvider.getSystemJavaCompiler();
        List<String> args = new ArrayList<>(List.of("-d", out.toString(), "-cp", System.getProperty("java.class.path")));
        for (Path f : files) args.add(f.toString());
        boolean done = compiler != null && compiler.run(null, null, null, args.toArray(new String[0])) == 0;
        holds(done, "what is told there doesn't compile: " + List.of(files));
        return done;
    }

    private static String printedBy(Class<?> program) throws Exception {
        PrintStream screen = System.out;
        ByteArrayOutputStream bytes = new ByteArrayOutputStream();
        System.setOut(new PrintStream(bytes, true, StandardCharsets.UTF_8));
        try {
            program.getMethod("main", String[].class).invoke(null, (Object) new String[0]);
        } finally {
            System.setOut(screen);
        }
        return bytes.toString(StandardCharsets.UTF_8).replace("\r\n", "\n");
    }

    private static void aPackageLineAtItsHeadWillDo(Path out) throws IOException {
        Path into = Files.createDirectories(out.resolve("some/where"));
        String copy = "package some.where;\n" + Files.readString(SOURCE);
        compiles(out, Files.writeString(into.resolve("ShrinkingCalls.java"), copy));
    }

    private static void remove(Path directory) throws IOException {
        try (Stream<Path> all = Files.walk(directory)) {
            for (Path p : all.sorted(Comparator.reverseOrder()).toList()) Files.delete(p);
        }
    }

    // ---- names and numbers

    private static List<Method> face() {
        List<Method> all = new ArrayList<>();
        for (Method m : ShrinkingCalls.class.getDeclaredMethods()) if (Modifier.isPublic(m.getModifiers())) all.add(m);
        return all;
    }

    private static void constantsAreTheClasss(String page) throws IllegalAccessException {
        Map<String, Integer> told = new TreeMap<>();
        Matcher m = Pattern.compile("`([A-Z]+)` \\((-\\d+)\\)").matcher(page);
        while (m.find()) told.put(m.group(1), Integer.valueOf(m.group(2)));
        Map<String, Integer> are = new TreeMap<>();
        for (Field f : ShrinkingCalls.class.getFields()) are.put(f.getName(), f.getInt(null));
        holds(told.equals(are), "constants are told as " + told + ", and are " + are);
    }

    private static void everyCallIsTold(String page) {
        Map<String, Integer> told = new TreeMap<>();
        Matcher m = Pattern.compile("^\\| `(\\w+)\\(([^)]*)\\)` \\|", Pattern.MULTILINE).matcher(page);
        while (m.find()) told.put(m.group(1), m.group(2).isEmpty() ? 0 : m.group(2).split(", ").length);
        Map<String, Integer> are = new TreeMap<>();
        for (Method f : face()) are.put(f.getName(), f.getParameterCount());
        holds(told.equals(are), "calls are told as " + told + ", and are " + are);
    }

    private static void everyTestIsNamed(String page) throws IOException {
        try (Stream<Path> all = Files.list(TESTS)) {
            for (Path p : all.toList()) {
                String name = p.getFileName().toString().replace(".java", "");
                holds(page.contains("`" + name + "`"), "it doesn't name " + name);
            }
        }
    }

    private static void anObjectIsAsLargeAsTold(String page) throws IllegalAccessException {
        Matcher m = Pattern.compile("some ([0-9,]+) elements").matcher(page);
        boolean found = m.find();
        holds(found, "how many elements an object has");
        if (!found) return;
        int told = Integer.parseInt(m.group(1).replace(",", ""));
        int are = elements(new ShrinkingCalls());
        holds(Math.abs(are - told) <= told / 20, "some " + told + " elements, but there are " + are);
    }

    /** Elements of all rows that an object holds, in objects of its own, too. */
    private static int elements(Object o) throws IllegalAccessException {
        int n = 0;
        for (Field f : o.getClass().getDeclaredFields()) {
            if (Modifier.isStatic(f.getModifiers()) || f.getType().isPrimitive()) continue;
            f.setAccessible(true);
            Object held = f.get(o);
            n += held.getClass().isArray() ? Array.getLength(held) : elements(held);
        }
        return n;
    }
}
