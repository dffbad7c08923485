import java.lang.reflect.Field;
import java.lang.reflect.InvocationTargetException;
import java.lang.reflect.Method;
import java.lang.reflect.Modifier;
import java.net.URL;
import java.net.URLClassLoader;
import java.nio.file.Files;
import java.nio.file.Path;
import java.util.List;
import java.util.regex.Matcher;
import java.util.regex.Pattern;
import javax.tools.ToolProvider;

/** The example that README.md shows, as it stands there; it runs in the project's folder. */
public final class ReadmeTest {
    private static final Pattern EXAMPLE = Pattern.compile("(?s)\n```java\n(.*?)\n```\n");
    /** A call that may give its answer to a variable, then the answer and words on it. */
    private static final Pattern LINE = Pattern.compile(
        "(int \\w+ = )?(p\\.\\w+\\([^;]*\\)); +// (-?\\d+|[A-Z_]+): \\S.*");

    private static int checked = 0;

    public static void main(String[] args) throws Exception {
        String text = Files.readString(Path.of("README.md"));
        Matcher m = EXAMPLE.matcher(text);
        Due.holds("README.md shows an example", m.find());
        List<String> lines = m.group(1).lines().toList();
        play(programOf(lines));
        Due.is("the number of answers that were looked at", checked, lines.size() - 1);
        Due.holds("README.md shows one example alone", !m.find());
        everyMemberIsNamed(text);
        Due.end();
    }

    /** What the example's program calls; it is public, as that program has its own loader. */
    public static int check(String call, int got, int due) {
        checked++;
        Due.is("README.md's " + call, got, due);
        return got;
    }

    /** The example with a look at each answer; its first line makes the object. */
    private static String programOf(List<String> lines) {
        StringBuilder program = new StringBuilder();
        program.append("public final class Example {\n");
        program.append("public static void main(String[] args) {\n");
        program.append(lines.get(0)).append("\n");
        for (String line : lines.subList(1, lines.size())) {
            Matcher m = LINE.matcher(line);
            boolean matches = m.matches();
            Due.holds("a call that says its answer, in README.md: " + line, matches);
            if (matches) {
                String variable = m.group(1) == null ? "" : m.group(1);
                String due = m.group(3).matches("[A-Z_]+") ? "HornProtocol." + m.group(3)
                    : m.group(3);
                program.append(variable + "ReadmeTest.check(\"" + m.group(2) + "\", " + m.group(2)
                    + ", " + due + ");\n");
            }
        }
        return program.append("}\n}\n").toString();
    }

    private static void play(String program) throws Exception {
        Path folder = Files.createTempDirectory("readme");
        Path source = folder.resolve("Example.java");
        try {
            Files.writeString(source, program);
            int failed = ToolProvider.getSystemJavaCompiler().run(null, null, null,
                "-cp", System.getProperty("java.class.path"), "-d", folder.toString(),
                source.toString());
            Due.is("the compiler, given README.md's example,", failed, 0);
            if (failed == 0) {
                run(folder);
            }
        } finally {
            Files.deleteIfExists(folder.resolve("Example.class"));
            Files.deleteIfExists(source);
            Files.deleteIfExists(folder);
        }
    }

    private static void run(Path folder) throws Exception {
        URL[] places = {folder.toUri().toURL()};
        try (URLClassLoader loader = new URLClassLoader(places)) {
            Method main = loader.loadClass("Example").getMethod("main", String[].class);
            main.invoke(null, (Object) new String[0]);
        } catch (InvocationTargetException e) {
            Due.holds("README.md's example ends, without " + e.getCause(), false);
        }
    }

    private static void everyMemberIsNamed(String text) {
        for (Method method : HornProtocol.class.getDeclaredMethods()) {
            if (Modifier.isPublic(method.getModifiers())) {
                Due.holds("README.md tells of " + method.getName(),
                    text.contains("| `" + method.getName() + "("));
            }
        }
        for (Field field : HornProtocol.class.getDeclaredFields()) {
            if (Modifier.isPublic(field.getModifiers())) {
                Due.holds("README.md tells of " + field.getName(),
                    text.contains("`" + field.getName() + "`"));
            }
        }
    }
}
