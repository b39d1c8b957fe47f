import java.lang.reflect.Method;
import java.util.Arrays;

/**
 * Draws calls for long runs. The generator is our own and starts from the run's number, so that
 * every run of a test makes the same calls.
 */
final class Draws {
    static final int CALLS = 512;

    private static final String[] NAMES = {
        "write", "remove", "commit", "abort", "crash", "use", "has", "read", "next", "found",
        "snapshot", "prune", "sync", "synced", "size", "done"
    };
    private static final int[] ARITIES = {3, 2, 0, 0, 0, 1, 3, 3, 3, 1, 1, 0, 1, 0, 0, 0};

    // How often each of NAMES is drawn. The kinds of run differ, because no single mixture comes
    // near all edges: much history of few keys; many records, so that volumes fill up; transactions
    // that grow to forty changes; synchronisations that last; a mirror that fills up.
    private static final int[][] WEIGHTS = {
        {20, 8, 10, 2, 1, 3, 6, 6, 6, 4, 4, 4, 6, 2, 2, 1},
        {60, 3, 3, 1, 0, 1, 2, 2, 2, 1, 1, 1, 3, 1, 1, 1},
        {60, 30, 1, 1, 1, 1, 4, 4, 2, 1, 1, 1, 1, 1, 1, 1},
        {15, 8, 8, 1, 3, 4, 5, 5, 5, 2, 2, 3, 25, 5, 3, 1},
        {50, 25, 8, 0, 0, 2, 2, 2, 2, 1, 0, 5, 25, 2, 2, 1},
    };
    private static final int[] KEYS = {3, 40, 6, 5, 12};
    private static final int[] ODD = {Integer.MIN_VALUE, -1, 0, 1, 2, Integer.MAX_VALUE};

    private final int kind;
    private long state;
    private int which;
    private Object[] arguments;

    Draws(int run) {
        kind = run % WEIGHTS.length;
        state = run;
    }

    /** The methods that drawn calls are made with, for the program or for something like it. */
    static Method[] methodsOf(Class<?> type) throws ReflectiveOperationException {
        Method[] methods = new Method[NAMES.length];
        for (int i = 0; i < NAMES.length; i++) {
            Class<?>[] ints = new Class<?>[ARITIES[i]];
            Arrays.fill(ints, int.class);
            methods[i] = type.getDeclaredMethod(NAMES[i], ints);
        }
        return methods;
    }

    /** The next call; done is the number of the last transaction, near which times are drawn. */
    void draw(int done) {
        which = drawName();
        arguments = drawArguments(done);
    }

    /** The drawn call made on an object; a boolean answers 1 or 0. */
    long make(Method[] methods, Object on) throws ReflectiveOperationException {
        Object got = methods[which].invoke(on, arguments);
        return got instanceof Boolean ? ((Boolean) got ? 1 : 0) : (Integer) got;
    }

    boolean is(String name) {
        return NAMES[which].equals(name);
    }

    int firstArgument() {
        return arguments.length == 0 ? 0 : (Integer) arguments[0];
    }

    @Override
    public String toString() {
        return NAMES[which] + Arrays.toString(arguments);
    }

    private int below(int bound) {
        state = state * 6364136223846793005L + 1442695040888963407L;
        return (int) ((state >>> 33) % bound);
    }

    private int drawName() {
        int[] weights = WEIGHTS[kind];
        int at = below(Arrays.stream(weights).sum());
        int name = 0;
        while (at >= weights[name]) {
            at -= weights[name];
            name++;
        }
        return name;
    }

    private Object[] drawArguments(int done) {
        switch (NAMES[which]) {
            case "use": return new Object[] {oddOr(8, below(2))};
            case "found": return new Object[] {oddOr(8, below(5))};
            case "snapshot": return new Object[] {drawTime(done)};
            case "sync": return new Object[] {oddOr(8, below(4) == 0 ? below(53) : below(6))};
            case "write": return new Object[] {drawKey(), drawKey(), below(1000) - 500};
            case "remove": return new Object[] {drawKey(), drawKey()};
            default: return ARITIES[which] == 0 ? new Object[0]
                    : new Object[] {drawKey(), drawKey(), drawTime(done)};
        }
    }

    private int drawKey() {
        return oddOr(30, below(KEYS[kind]) - 1);
    }

    private int drawTime(int done) {
        return oddOr(20, below(done + 3));
    }

    private int oddOr(int oneIn, int usual) {
        return below(oneIn) == 0 ? ODD[below(ODD.length)] : usual;
    }
}
