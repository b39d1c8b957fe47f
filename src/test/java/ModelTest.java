import java.lang.reflect.Method;

/** All promises: runs of 512 calls on new objects, every answer compared with PlainModel's. */
public final class ModelTest {
    private static final int RUNS = 3000;

    // The runs are worth something only if they come to these, so the test looks whether they do.
    private static final String[] EDGES = {
        "a transaction of forty changes", "a full master", "a full mirror",
        "a sync stopped by a full mirror", "a fifth snapshot", "a crash during a sync",
        "a master pruned during a sync", "a mirror pruned during a sync"
    };

    private static final int[] reached = new int[EDGES.length];

    public static void main(String[] args) throws ReflectiveOperationException {
        Method[] ofProgram = Draws.methodsOf(HistoricalTreeStore.class);
        Method[] ofModel = Draws.methodsOf(PlainModel.class);
        for (int run = 0; run < RUNS && Checks.allAsDue(); run++) {
            Checks.part("run " + run);
            oneRun(new Draws(run), ofProgram, ofModel);
        }
        Checks.part("the runs themselves");
        for (int i = 0; i < EDGES.length && Checks.allAsDue(); i++) {
            Checks.due("coming to " + EDGES[i], reached[i] > 0, true);
        }
        Checks.finish();
    }

    private static void oneRun(Draws draws, Method[] ofProgram, Method[] ofModel)
            throws ReflectiveOperationException {
        HistoricalTreeStore program = new HistoricalTreeStore();
        PlainModel model = new PlainModel();
        for (int call = 0; call < Draws.CALLS && Checks.allAsDue(); call++) {
            draws.draw(model.done());
            boolean wasSyncing = model.isSyncing();
            long want = draws.make(ofModel, model);
            long got = draws.make(ofProgram, program);
            Checks.due("call " + call + ", " + draws, got, want);
            noteEdges(draws, want, model, wasSyncing);
        }
    }

    private static void noteEdges(Draws call, long want, PlainModel model, boolean wasSyncing) {
        int first = call.firstArgument();
        boolean prunes = call.is("prune") && want > 0 && wasSyncing;
        boolean inTime = first >= 0 && first <= model.done();
        note(0, call.is("abort") && want == 40);
        note(1, call.is("size") && want == 100 && model.volume() == 0);
        note(2, call.is("size") && want == 100 && model.volume() == 1);
        note(3, call.is("sync") && want >= 0 && want < first && model.isSyncing());
        note(4, call.is("snapshot") && want == 0 && inTime);
        note(5, call.is("crash") && wasSyncing);
        note(6, prunes && model.volume() == 0);
        note(7, prunes && model.volume() == 1);
    }

    private static void note(int edge, boolean isReached) {
        reached[edge] += isReached ? 1 : 0;
    }
}
