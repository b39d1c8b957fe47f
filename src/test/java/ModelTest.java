import java.lang.reflect.Method;
import java.util.Arrays;

/**
 * All promises: runs of 512 calls on new objects, every answer compared with PlainModel's. The calls
 * are drawn by a generator of our own, so that every run of the test makes the same ones.
 */
public final class ModelTest {
    private static final int RUNS = 3000;
    private static final int CALLS = 512;
    private static final String[] NAMES = {
        "write", "remove", "commit", "abort", "crash", "use", "has", "read", "next", "found",
        "snapshot", "prune", "sync", "synced", "size", "done"
    };
    private static final int[] ARITIES = {3, 2, 0, 0, 0, 1, 3, 3, 3, 1, 1, 0, 1, 0, 0, 0};

    // How often each of NAMES is drawn. The kinds of run differ, because no single mixture comes
    // near all edges: much history of few keys; many records, so that volumes fill up; transactions
    // that grow to forty changes; synchronisations that last; a mirror that fills up.
    private static final int[][] WEIGHTS = {
        {20, 8, 10, 2, 1, 3, 6, 6, 6, 4, 4, 4, 6, 2, 2, 1},
        {60, 3, 3, 1, 0, 1, 2, 2, 2, 1, 1, 1, 3, 1, 1, 1},
        {60, 30, 1, 1, 1, 1, 4, 4, 2, 1, 1, 1, 1, 1, 1, 1},
        {15, 8, 8, 1, 3, 4, 5, 5, 5, 2, 2, 3, 25, 5, 3, 1},
        {50, 25, 8, 0, 0, 2, 2, 2, 2, 1, 0, 5, 25, 2, 2, 1},
    };
    private static final int[] KEYS = {3, 40, 6, 5, 12};
    private static final int[] ODD = {Integer.MIN_VALUE, -1, 0, 1, 2, Integer.MAX_VALUE};

    private static final String[] EDGES = {
        "a transaction of forty changes", "a full master", "a full mirror",
        "a sync stopped by a full mirror", "a fifth snapshot", "a crash during a sync",
        "a master pruned during a sync", "a mirror pruned during a sync"
    };

    private static final int[] reached = new int[EDGES.length];
    private static long state;
    private static int kind;

    public static void main(String[] args) throws ReflectiveOperationException {
        Method[] ofProgram = methodsOf(HistoricalTreeStore.class);
        Method[] ofModel = methodsOf(PlainModel.class);
        for (int run = 0; run < RUNS && Checks.allAsDue(); run++) {
            state = run;
            kind = run % WEIGHTS.length;
            Checks.part("run " + run);
            oneRun(ofProgram, ofModel);
        }
        Checks.part("the runs themselves");
        for (int i = 0; i < EDGES.length && Checks.allAsDue(); i++) {
            Checks.due("coming to " + EDGES[i], reached[i] > 0, true);
        }
        Checks.finish();
    }

    private static Method[] methodsOf(Class<?> type) throws ReflectiveOperationException {
        Method[] methods = new Method[NAMES.length];
        for (int i = 0; i < NAMES.length; i++) {
            Class<?>[] ints = new Class<?>[ARITIES[i]];
            Arrays.fill(ints, int.class);
            methods[i] = type.getDeclaredMethod(NAMES[i], ints);
        }
        return methods;
    }

    private static void oneRun(Method[] ofProgram, Method[] ofModel)
            throws ReflectiveOperationException {
        HistoricalTreeStore program = new HistoricalTreeStore();
        PlainModel model = new PlainModel();
        for (int call = 0; call < CALLS && Checks.allAsDue(); call++) {
            int which = drawName();
            Object[] arguments = drawArguments(NAMES[which], ARITIES[which], model.done());
            boolean wasSyncing = model.isSyncing();
            long want = answer(ofModel[which].invoke(model, arguments));
            long got = answer(ofProgram[which].invoke(program, arguments));
            Checks.due("call " + call + ", " + NAMES[which] + Arrays.toString(arguments), got, want);
            noteEdges(NAMES[which], arguments, want, model, wasSyncing);
        }
    }

    private static long answer(Object got) {
        return got instanceof Boolean ? ((Boolean) got ? 1 : 0) : (Integer) got;
    }

    private static void noteEdges(String name, Object[] arguments, long want, PlainModel model,
            boolean wasSyncing) {
        int first = arguments.length == 0 ? 0 : (Integer) arguments[0];
        boolean prunes = name.equals("prune") && want > 0 && wasSyncing;
        boolean inTime = first >= 0 && first <= model.done();
        note(0, name.equals("abort") && want == 40);
        note(1, name.equals("size") && want == 100 && model.volume() == 0);
        note(2, name.equals("size") && want == 100 && model.volume() == 1);
        note(3, name.equals("sync") && want >= 0 && want < first && model.isSyncing());
        note(4, name.equals("snapshot") && want == 0 && inTime);
        note(5, name.equals("crash") && wasSyncing);
        note(6, prunes && model.volume() == 0);
        note(7, prunes && model.volume() == 1);
    }

    private static void note(int edge, boolean isReached) {
        reached[edge] += isReached ? 1 : 0;
    }

    private static int draw(int bound) {
        state = state * 6364136223846793005L + 1442695040888963407L;
        return (int) ((state >>> 33) % bound);
    }

    private static int drawName() {
        int[] weights = WEIGHTS[kind];
        int at = draw(Arrays.stream(weights).sum());
        int name = 0;
        while (at >= weights[name]) {
            at -= weights[name];
            name++;
        }
        return name;
    }

    private static Object[] drawArguments(String name, int arity, int done) {
        switch (name) {
            case "use": return new Object[] {oddOr(8, draw(2))};
            case "found": return new Object[] {oddOr(8, draw(5))};
            case "snapshot": return new Object[] {drawTime(done)};
            case "sync": return new Object[] {oddOr(8, draw(4) == 0 ? draw(53) : draw(6))};
            case "write": return new Object[] {drawKey(), drawKey(), draw(1000) - 500};
            case "remove": return new Object[] {drawKey(), drawKey()};
            default: return arity == 0 ? new Object[0]
                    : new Object[] {drawKey(), drawKey(), drawTime(done)};
        }
    }

    private static int drawKey() {
        return oddOr(30, draw(KEYS[kind]) - 1);
    }

    private static int drawTime(int done) {
        return oddOr(20, draw(done + 3));
    }

    private static int oddOr(int oneIn, int usual) {
        return draw(oneIn) == 0 ? ODD[draw(ODD.length)] : usual;
    }
}
