import java.lang.reflect.InvocationTargetException;
import java.net.URL;
import java.net.URLClassLoader;
import java.nio.file.Files;
import java.nio.file.Path;
import java.util.ArrayList;
import java.util.List;
import java.util.TreeSet;
import java.util.regex.Matcher;
import java.util.regex.Pattern;
import javax.tools.JavaCompiler;
import javax.tools.ToolProvider;

/** The examples of README.md: they are compiled and run as they stand there, and each answers what stands behind it. */
public final class ReadmeTest {
    private static final Pattern SHOWN =
        Pattern.compile("(?:int (\\w+) = )?(x\\.(\\w+)\\(.*\\));\\s*// (-?\\d+|[A-Z]+|Long\\.MIN_VALUE)(:.*|\\b.*)?");

    private ReadmeTest() {
    }

    public static void main(String[] args) throws Exception {
        List<String> lines = examples(Files.readAllLines(Path.of(args[0])));
        run(source(lines));
        Check.due("calls of the face that README.md shows", shown(lines), faces());
        Check.end();
    }

    /** Shown is loaded apart from Check, so it needs a public way there. */
    public static void due(String call, long got, long want) {
        Check.due(call, got, want);
    }

    private static List<String> examples(List<String> readme) {
        List<String> found = new ArrayList<>();
        boolean inside = false;
        for (String line : readme) {
            if (line.startsWith("```")) {
                inside = line.equals("```java");
            } else if (inside) {
                found.add(line);
            }
        }
        return found;
    }

    /** A class whose main method makes the examples' calls; one with an answer behind it is compared. */
    private static String source(List<String> lines) {
        StringBuilder t = new StringBuilder("public final class Shown {\n  public static void main(String[] args) {\n");
        for (String line : lines) {
            Matcher m = SHOWN.matcher(line);
            if (!m.matches()) {
                Check.due("README.md: an answer that can't be read: " + line, line.contains("//") ? 1 : 0, 0);
                t.append(line).append('\n');
                continue;
            }
            String got = m.group(2), due = m.group(4);
            if (m.group(1) != null) {
                t.append("int ").append(m.group(1)).append(" = ").append(got).append(";\n");
                got = m.group(1);
            }
            String want = due.matches("[A-Z]+") ? "TakenBack." + due : due;
            t.append("ReadmeTest.due(\"README.md: ").append(m.group(2)).append("\", ").append(got).append(", ").append(want).append(");\n");
        }
        return t.append("  }\n}\n").toString();
    }

    private static void run(String source) throws Exception {
        Path at = Files.createTempDirectory("readme");
        Path file = at.resolve("Shown.java");
        try {
            Files.writeString(file, source);
            JavaCompiler javac = ToolProvider.getSystemJavaCompiler();
            int failed = javac.run(null, null, null, "--release", "17", "-cp", System.getProperty("java.class.path"),
                "-d", at.toString(), file.toString());
            Check.due("README.md: javac", failed, 0);
            if (failed == 0) {
                start(at);
            }
        } finally {
            Files.deleteIfExists(at.resolve("Shown.class"));
            Files.deleteIfExists(file);
            Files.deleteIfExists(at);
        }
    }

    private static void start(Path at) throws Exception {
        try (URLClassLoader loader = new URLClassLoader(new URL[] {at.toUri().toURL()}, ReadmeTest.class.getClassLoader())) {
            loader.loadClass("Shown").getMethod("main", String[].class).invoke(null, (Object) new String[0]);
        } catch (InvocationTargetException e) {
            throw new IllegalStateException("README.md", e.getCause());
        }
    }

    private static int shown(List<String> lines) {
        TreeSet<String> names = new TreeSet<>();
        for (String line : lines) {
            Matcher m = Pattern.compile("x\\.(\\w+)\\(").matcher(line);
            while (m.find()) {
                names.add(m.group(1));
            }
        }
        return names.size();
    }

    private static int faces() {
        TreeSet<String> names = new TreeSet<>();
        for (java.lang.reflect.Method m : TakenBack.class.getDeclaredMethods()) {
            if (java.lang.reflect.Modifier.isPublic(m.getModifiers())) {
                names.add(m.getName());
            }
        }
        return names.size();
    }
}
