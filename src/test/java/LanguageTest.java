import java.io.IOException;
import java.lang.management.ManagementFactory;
import java.lang.reflect.Constructor;
import java.lang.reflect.Field;
import java.lang.reflect.Method;
import java.lang.reflect.Modifier;
import java.nio.file.Files;
import java.nio.file.Path;
import java.util.ArrayList;
import java.util.HashSet;
import java.util.List;
import java.util.Set;
import java.util.regex.Matcher;
import java.util.regex.Pattern;

/** What can be seen of LANGUAGE.md's rules: the face, words that are ruled out, long methods, objects made by calls. */
public final class LanguageTest {
    private static final Path SOURCE = Path.of("src/main/java/ShrinkingCalls.java");
    private static final String[] FACE = {
        "int type(long,int)", "int clear()", "int read()", "int places(int)", "int call(int,int)", "int arc(int,int,int)",
        "int put(int,int,int,int)", "int graphs()", "int graph(int,int)", "int together(int,int)", "int ends(int)",
        "int shortest(int)", "int go(int)", "int anew()", "int trip(int)", "int slow(int)", "int mended(int)",
        "int needed(int)", "int most(int)", "int longest(int,int,int,int)", "int next(int,int,int,int)",
        "int weight(int,int)", "int count(int)", "long trace()"};
    private static final Set<String> CONSTANTS = Set.of("BAD", "STATE", "FULL", "ENDLESS", "NONE");

    private static int wrong = 0;

    private static void holds(boolean yes, String what) {
        if (!yes) {
            wrong++;
            System.out.println("not as LANGUAGE.md asks: " + what);
        }
    }

    public static void main(String[] args) throws IOException {
        faceIsTheDocuments();
        wordsAreAllowed(bare(Files.readString(SOURCE)));
        methodsAreShort(bare(Files.readString(SOURCE)).split("\n"));
        callsMakeNoObjects();
        System.out.println(wrong == 0 ? "the rules that can be seen are kept" : wrong + " rules are not kept");
        if (wrong != 0) System.exit(1);
    }

    private static void faceIsTheDocuments() {
        Class<?> c = ShrinkingCalls.class;
        holds(Modifier.isPublic(c.getModifiers()) && Modifier.isFinal(c.getModifiers()), "the class is public and final");
        Set<String> due = new HashSet<>(List.of(FACE));
        Set<String> names = new HashSet<>();
        for (String f : FACE) names.add(f.substring(f.indexOf(' ') + 1, f.indexOf('(')));
        for (Method m : c.getDeclaredMethods()) {
            if (Modifier.isPrivate(m.getModifiers())) {
                holds(!names.contains(m.getName()), "no private method bears a public one's name: " + m.getName());
                continue;
            }
            List<String> types = new ArrayList<>();
            for (Class<?> t : m.getParameterTypes()) types.add(t.getName());
            String face = m.getReturnType() + " " + m.getName() + "(" + String.join(",", types) + ")";
            holds(Modifier.isPublic(m.getModifiers()) && due.remove(face), "no other method: " + face);
        }
        holds(due.isEmpty(), "every method: " + due);
        for (Field f : c.getDeclaredFields()) {
            boolean constant = CONSTANTS.contains(f.getName());
            holds(constant ? Modifier.isPublic(f.getModifiers()) : Modifier.isPrivate(f.getModifiers()), "field " + f.getName());
        }
        Constructor<?>[] made = c.getDeclaredConstructors();
        holds(made.length == 1 && made[0].getParameterCount() == 0 && Modifier.isPublic(made[0].getModifiers()), "one constructor");
        holds(c.getDeclaredClasses().length <= 12, "some twelve classes");
        for (Class<?> inner : c.getDeclaredClasses()) {
            holds(Modifier.isStatic(inner.getModifiers()), inner.getName() + " is static");
            for (Method m : inner.getDeclaredMethods()) {
                holds(!names.contains(m.getName()), "no method inside bears a public one's name: " + m.getName());
                holds(m.getParameterCount() <= 7, "seven parameters at most: " + m.getName());
            }
            int fields = 0;
            for (Field f : inner.getDeclaredFields()) if (!Modifier.isStatic(f.getModifiers())) fields++;
            holds(fields <= 20, "some twenty fields: " + inner.getName());
        }
    }

    /** Comments, texts and signs become blanks. */
    private static String bare(String source) {
        Matcher m = Pattern.compile("/\\*.*?\\*/|//[^\n]*|\"[^\"\n]*\"|'[^'\n]'", Pattern.DOTALL).matcher(source);
        return m.replaceAll(r -> r.group().replaceAll("[^\n]", " "));
    }

    private static void wordsAreAllowed(String source) {
        String ruledOut = "throw|throws|try|catch|synchronized|assert|transient|volatile|native|protected|package|var|yield|"
                + "equals|hashCode|System\\.out|\\w+Exact|Object|Random|Thread|Exception";
        Matcher m = Pattern.compile("\\b(" + ruledOut + ")\\b|->|::").matcher(source);
        while (m.find()) holds(false, "the word " + m.group());
        Matcher imports = Pattern.compile("import ([^;]*);").matcher(source);
        while (imports.find()) holds(imports.group(1).equals("java.util.Arrays"), "import of " + imports.group(1));
        for (char c : source.toCharArray()) holds(c < 128, "signs 1 to 127");
    }

    private static void methodsAreShort(String[] lines) {
        int begun = -1;
        for (int i = 0; i < lines.length; i++) {
            if (lines[i].matches("\\s+[a-z].*\\) \\{") && !lines[i].matches("\\s+(if|for|while|switch|\\}).*") && begun < 0) begun = i;
            boolean ends = begun >= 0 && lines[i].equals(lines[begun].replaceAll("\\S.*", "") + "}");
            if (ends) {
                holds(i - begun <= 60, "sixty lines at most: " + lines[begun].trim());
                begun = -1;
            }
        }
    }

    private static void callsMakeNoObjects() {
        var threads = (com.sun.management.ThreadMXBean) ManagementFactory.getThreadMXBean();
        ShrinkingCalls x = new ShrinkingCalls();
        for (int i = 0; i < 20; i++) everyCall(x);
        long before = threads.getCurrentThreadAllocatedBytes();
        for (int i = 0; i < 20; i++) everyCall(x);
        long made = threads.getCurrentThreadAllocatedBytes() - before;
        holds(made < 4096, "calls make no objects, but made " + made + " bytes");
    }

    private static void everyCall(ShrinkingCalls x) {
        x.type(0x61637420412033L, 7);
        x.type(';' << 8 | ' ', 2);
        x.type(0x63616c6c20414120L, 8);
        x.type(0x303e3120313e303bL, 8);
        x.read();
        x.graphs();
        x.graph(1, 4);
        x.together(77, 5000);
        x.ends(-1);
        x.shortest(0);
        x.go(0);
        x.trip(2);
        x.anew();
        x.slow(0);
        x.mended(1);
        x.needed(0);
        x.put(0, 0, 0, 2);
        x.mended(1);
        x.needed(0);
        x.longest(0, 2, 2, 2);
        x.next(0, 1, 1, 1);
        x.weight(4, 0);
        x.count(3);
        x.clear();
        x.trace();
    }
}
