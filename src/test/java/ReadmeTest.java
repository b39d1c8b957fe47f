import java.io.File;
import java.io.IOException;
import java.lang.reflect.Method;
import java.lang.reflect.Modifier;
import java.nio.file.Files;
import java.nio.file.Path;
import java.util.Arrays;
import java.util.HashSet;
import java.util.Set;
import java.util.regex.Matcher;
import java.util.regex.Pattern;

/** README.md: its example answers what it says, it names every call and test, its commands hold. */
public final class ReadmeTest {
    private static final Path README = Path.of("README.md");
    private static final Path RUN = Path.of(".ci/run");
    private static final Path TESTS = Path.of("src/test/java");
    private static final Pattern EXAMPLE_CALL =
            Pattern.compile("store\\.(\\w+)\\(([-\\d, ]*)\\);\\s+// (true|false|-?\\d+)(: .*)?");

    public static void main(String[] args) throws IOException, ReflectiveOperationException {
        String readme = Files.readString(README);
        example(readme);
        callsAreNamed(readme);
        testsAreNamed(readme);
        commands(readme);
        Checks.finish();
    }

    private static void example(String readme) throws ReflectiveOperationException {
        Checks.part("README, the example");
        HistoricalTreeStore store = new HistoricalTreeStore();
        Set<String> shown = new HashSet<>();
        for (String line : block(readme, "java").split("\n")) {
            if (!line.startsWith("store.")) {
                continue;
            }
            Matcher call = EXAMPLE_CALL.matcher(line);
            boolean canBeRead = call.matches();
            Checks.due("a call with its answer: " + line, canBeRead, true);
            if (canBeRead) {
                String got = make(store, call.group(1), call.group(2));
                Checks.due(line + " - it answered " + got, got.equals(call.group(3)), true);
                shown.add(call.group(1));
            }
        }
        for (Method method : HistoricalTreeStore.class.getDeclaredMethods()) {
            if (Modifier.isPublic(method.getModifiers())) {
                Checks.due("showing " + method, shown.contains(method.getName()), true);
            }
        }
    }

    private static String make(HistoricalTreeStore store, String name, String arguments)
            throws ReflectiveOperationException {
        Object[] numbers = arguments.isEmpty() ? new Object[0]
                : Arrays.stream(arguments.split(", ")).map(Integer::valueOf).toArray();
        Class<?>[] types = new Class<?>[numbers.length];
        Arrays.fill(types, int.class);
        return HistoricalTreeStore.class.getMethod(name, types).invoke(store, numbers).toString();
    }

    private static void callsAreNamed(String readme) {
        Checks.part("README, the table of calls");
        for (Method method : HistoricalTreeStore.class.getDeclaredMethods()) {
            if (Modifier.isPublic(method.getModifiers())) {
                String row = "\n| `" + method.getName() + "(";
                Checks.due("a row for " + method, readme.contains(row), true);
            }
        }
    }

    private static void testsAreNamed(String readme) {
        Checks.part("README, the table of tests");
        for (File file : TESTS.toFile().listFiles()) {
            if (file.getName().endsWith("Test.java")) {
                String name = file.getName().replace(".java", "");
                Checks.due("a row for " + name, readme.contains("\n| `" + name + "` |"), true);
            }
        }
        Matcher row = Pattern.compile("\n\\| `(\\w+Test)` \\|").matcher(readme);
        while (row.find()) {
            boolean isThere = TESTS.resolve(row.group(1) + ".java").toFile().exists();
            Checks.due("a test for the row " + row.group(1), isThere, true);
        }
    }

    private static void commands(String readme) throws IOException {
        Checks.part("README, the commands");
        String tests = readme.substring(readme.indexOf("## Tests"));
        String all = block(tests, "sh").trim();
        Checks.due("'" + all + "' is there", Path.of(all).toFile().exists(), true);
        Checks.due("'" + all + "' is what CI runs", Path.of(all).equals(RUN), true);

        String one = block(tests.substring(tests.indexOf("one alone")), "sh").trim();
        Checks.due(one + " - as in .ci/run", commandOfRun().contains(one), true);
    }

    /** What .ci/run says it runs for a test, with MirrorTest put in. */
    private static String commandOfRun() throws IOException {
        return Files.readString(RUN).replace("\\\n", " ")
                .replace("\"$program\"", "src/main/java/HistoricalTreeStore.java")
                .replace("\"$1\"", "src/test/java/MirrorTest.java")
                .replace("\"$2\"", "src/test/java")
                .replace("\"$classes\"", "out")
                .replace("\"$name\"", "MirrorTest")
                .replaceAll("\\s+", " ");
    }

    private static String block(String text, String language) {
        String open = "```" + language + "\n";
        int from = text.indexOf(open) + open.length();
        return text.substring(from, text.indexOf("```", from));
    }
}
