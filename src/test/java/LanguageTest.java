import java.io.IOException;
import java.nio.file.Files;
import java.nio.file.Path;
import java.util.ArrayList;
import java.util.List;
import java.util.Map;
import java.util.TreeMap;
import java.util.regex.Matcher;
import java.util.regex.Pattern;

/** The rules of LANGUAGE.md that can be seen in the source by looking for words and calls. */
public final class LanguageTest {
    private static final Path SOURCE = Path.of("src/main/java/HistoricalTreeStore.java");
    private static final int MOST_LINES = 60;
    private static final int DEEPEST = 6;
    private static final int MOST_FIELDS = 40;
    private static final String[] FORBIDDEN = {
        "import", "package", "float", "double", "String", "Math", "Integer", "System", "Arrays",
        "null", "throw", "throws", "try", "catch", "synchronized", "assert", "instanceof", "enum",
        "interface", "record", "extends", "implements", "protected", "->", "::"
    };
    private static final Pattern METHOD = Pattern.compile(
            "(?ms)^    (?:public|private) [\\w\\[\\] ]*?(\\w+)\\([^)]*\\) \\{\n(.*?)^    \\}");
    private static final Pattern CALL = Pattern.compile("\\b(?!if\\b|for\\b|while\\b|switch\\b)"
            + "(?<!new )([a-zA-Z]\\w*)\\s*\\(");
    private static final Pattern FIELD =
            Pattern.compile("(?m)^    private (?!static)[\\w\\[\\] ]+( = [^;]+)?;");

    // A loop's counter starts, is held against a bound and moves, all in its head.
    private static final Pattern COUNTING_LOOP = Pattern.compile(
            "for \\(int (\\w+) = [^;]+; \\1 (?:<|>=) [^;&|]+; \\1(?:\\+\\+|--)\\) \\{");

    public static void main(String[] args) throws IOException {
        String code = Files.readString(SOURCE)
                .replaceAll("(?s)/\\*.*?\\*/", "").replaceAll("//[^\n]*", "");
        Map<String, String> bodies = bodies(code);
        words(code);
        arrays(code);
        loops(bodies);
        calls(bodies);
        sizes(code, bodies);
        Checks.finish();
    }

    private static Map<String, String> bodies(String code) {
        Map<String, String> bodies = new TreeMap<>();
        Matcher method = METHOD.matcher(code);
        while (method.find()) {
            bodies.put(method.group(1), method.group(2));
        }
        Checks.part("the source");
        int declared = HistoricalTreeStore.class.getDeclaredMethods().length;
        Checks.due("methods read, with the constructor", bodies.size(), declared + 1);
        return bodies;
    }

    private static void words(String code) {
        Checks.part("LANGUAGE.md, words");
        for (String word : FORBIDDEN) {
            String edge = Character.isLetter(word.charAt(0)) ? "\\b" : "";
            boolean there = Pattern.compile(edge + Pattern.quote(word) + edge).matcher(code).find();
            Checks.due("'" + word + "'", there, false);
        }
    }

    private static void arrays(String code) {
        Checks.part("LANGUAGE.md, rule 4");
        Matcher made = Pattern.compile("[^\n]*\\bnew\\b[^\n]*").matcher(code);
        while (made.find()) {
            String line = made.group().trim();
            boolean isField = line.matches("private final int\\[\\] \\w+ = new int\\[[A-Z_]+\\];");
            Checks.due("made in a field's initialiser: " + line, isField, true);
        }
    }

    private static void loops(Map<String, String> bodies) {
        Checks.part("LANGUAGE.md, rule 8, loops");
        bodies.forEach((name, body) -> {
            Matcher head = Pattern.compile("\\bfor \\([^{]*\\{").matcher(body);
            while (head.find()) {
                Matcher loop = COUNTING_LOOP.matcher(head.group());
                boolean counts = loop.matches();
                Checks.due("a counter in " + name + ": " + head.group(), counts, true);
                if (counts) {
                    String counter = "\\b" + loop.group(1) + "( [-+*/]?= |\\+\\+|--)";
                    String rest = body.substring(head.end());
                    boolean moved = Pattern.compile(counter).matcher(rest).find();
                    Checks.due("moved elsewhere in " + name, moved, false);
                }
            }
            Matcher loop = Pattern.compile("\\b(while|do)\\b[^{]*\\{").matcher(body);
            while (loop.find()) {
                boolean counts = loop.group().startsWith("while (sent < n && ")
                        && body.substring(loop.end()).trim().startsWith("sent++;");
                Checks.due("a counter in " + name + ": " + loop.group(), counts, true);
            }
        });
    }

    private static void calls(Map<String, String> bodies) {
        Checks.part("LANGUAGE.md, rules 8 and 10, calls");
        bodies.forEach((name, body) -> {
            Checks.due("depth of " + name, depth(name, bodies, new ArrayList<>()) <= DEEPEST, true);
            Matcher call = CALL.matcher(body);
            while (call.find()) {
                String arguments = inParentheses(body, call.end());
                Checks.due("own method " + call.group(1), bodies.containsKey(call.group(1)), true);
                Checks.due("a call inside " + call.group() + arguments + ")",
                        CALL.matcher(arguments).find(), false);
            }
        });
    }

    private static String inParentheses(String text, int from) {
        int open = 1;
        int at = from;
        while (at < text.length() && open > 0) {
            open += text.charAt(at) == '(' ? 1 : text.charAt(at) == ')' ? -1 : 0;
            at++;
        }
        return text.substring(from, at - 1);
    }

    /** How many methods deep the calls go from this one, itself counted. */
    private static int depth(String name, Map<String, String> bodies, List<String> way) {
        Checks.due("recursion by " + way + " to " + name, way.contains(name), false);
        if (way.contains(name) || !bodies.containsKey(name)) {
            return 0;
        }
        List<String> longer = new ArrayList<>(way);
        longer.add(name);
        int deepest = 0;
        Matcher call = CALL.matcher(bodies.get(name));
        while (call.find()) {
            deepest = Math.max(deepest, depth(call.group(1), bodies, longer));
        }
        return deepest + 1;
    }

    private static void sizes(String code, Map<String, String> bodies) {
        Checks.part("LANGUAGE.md, rule 10, sizes");
        bodies.forEach((name, body) ->
                Checks.due("length of " + name, body.lines().count() <= MOST_LINES, true));
        long fields = FIELD.matcher(code).results().count();
        Checks.due("fields found", fields > 0, true);
        Checks.due("fields, " + fields, fields <= MOST_FIELDS, true);
    }
}
