/** Compares answers with the ones that are due, prints each that differs, and ends the test. */
final class Checks {
    private static String part = "";
    private static int made = 0;
    private static int wrong = 0;

    private Checks() {
    }

    static void part(String name) {
        part = name;
    }

    static void due(String call, long got, long want) {
        made++;
        if (got != want) {
            wrong++;
            System.out.println(part + ": " + call + " answered " + got + ", due is " + want);
        }
    }

    static void due(String call, boolean got, boolean want) {
        due(call, got ? 1 : 0, want ? 1 : 0);
    }

    static boolean allAsDue() {
        return wrong == 0;
    }

    static void finish() {
        System.out.println(made + " answers looked at, " + wrong + " not as due");
        if (wrong != 0) {
            System.exit(1);
        }
    }
}
