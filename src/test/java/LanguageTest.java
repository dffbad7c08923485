import java.nio.file.Files;
import java.nio.file.Path;
import java.util.Collections;
import java.util.LinkedHashMap;
import java.util.Map;
import java.util.TreeSet;
import java.util.Set;
import java.util.regex.Matcher;
import java.util.regex.Pattern;

/** What of LANGUAGE.md can be seen in the text of the class; it runs in the project's folder. */
public final class LanguageTest {
    private static final Path SOURCE = Path.of("src/main/java/HornProtocol.java");
    private static final String BARRED = "import|package|float|double|String|Object|Math|Integer|"
        + "Long|System|Arrays|null|throw|throws|try|catch|finally|synchronized|assert|instanceof|"
        + "class|interface|enum|record|protected|var|toString|equals|hashCode|getClass|clone|"
        + "notify|notifyAll|wait|finalize";
    private static final Pattern HEAD = Pattern.compile(
        "^    (?:public|private) (?:static )?(?:(?:int|void|boolean) )?(\\w+)\\(([^)]*)\\) \\{$",
        Pattern.MULTILINE);
    private static final Pattern CALL = Pattern.compile("\\b(\\w+)\\(");
    private static final Set<String> WORDS = Set.of("if", "for", "while", "switch", "return");

    public static void main(String[] args) throws Exception {
        String text = withoutComments(Files.readString(SOURCE));
        barredWords(text);
        arrays(text);
        Map<String, String> bodies = bodies(text);
        Due.holds("the methods are found", bodies.size() >= 14);
        for (Map.Entry<String, String> e : bodies.entrySet()) {
            Due.holds(e.getKey() + " is short", e.getValue().lines().count() <= 60);
            callInACall(e.getKey(), e.getValue());
        }
        depths(bodies);
        Due.end();
    }

    private static String withoutComments(String text) {
        return text.replaceAll("(?s)/\\*.*?\\*/", "").replaceAll("//[^\n]*", "");
    }

    private static void barredWords(String text) {
        String inside = text.replaceFirst("public final class HornProtocol", "");
        Matcher m = Pattern.compile("\\b(" + BARRED + ")\\b|->|::|\"").matcher(inside);
        while (m.find()) {
            Due.holds("no " + m.group() + " in the class", false);
        }
    }

    private static void arrays(String text) {
        for (String line : text.split("\n")) {
            if (line.contains("new ") || line.contains("[]")) {
                Due.holds("an array is made in its field: " + line.strip(),
                    line.matches("    private final int\\[\\] \\w+ = new int\\[[A-Z_]+\\];"));
            }
        }
    }

    private static Map<String, String> bodies(String text) {
        Map<String, String> bodies = new LinkedHashMap<>();
        Matcher m = HEAD.matcher(text);
        while (m.find()) {
            int end = text.indexOf("\n    }", m.end());
            Due.holds(m.group(1) + " is declared once",
                bodies.put(m.group(1), text.substring(m.end(), end)) == null);
        }
        return bodies;
    }

    private static void callInACall(String name, String body) {
        Matcher m = CALL.matcher(body);
        while (m.find()) {
            if (WORDS.contains(m.group(1))) {
                continue;
            }
            int open = 1;
            int at = m.end();
            while (open > 0) {
                char c = body.charAt(at++);
                open += c == '(' ? 1 : c == ')' ? -1 : 0;
            }
            Due.holds("no call in the arguments of " + m.group(1) + " in " + name,
                !CALL.matcher(body.substring(m.end(), at)).find());
        }
    }

    private static void depths(Map<String, String> bodies) {
        for (String name : bodies.keySet()) {
            // Recursion shows as a depth that goes on growing.
            Set<String> level = Collections.singleton(name);
            int depth = 0;
            while (!level.isEmpty() && depth <= 6) {
                depth++;
                Set<String> next = new TreeSet<>();
                for (String caller : level) {
                    Matcher m = CALL.matcher(bodies.get(caller));
                    while (m.find()) {
                        if (bodies.containsKey(m.group(1))) {
                            next.add(m.group(1));
                        } else {
                            Due.holds("a word or a method of the class: " + m.group(1),
                                WORDS.contains(m.group(1)));
                        }
                    }
                }
                level = next;
            }
            Due.holds(name + " calls at most six deep", depth <= 6);
        }
    }
}
