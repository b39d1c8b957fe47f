import java.lang.reflect.Method;

/**
 * 'Changing nothing', in long runs: an object that gets all drawn calls answers like a twin that is
 * spared every call that was refused.
 */
public final class TwinRunsTest {
    private static final int RUNS = 1000;
    private static final String[] REFUSED_BY_FALSE = {"write", "remove", "use", "next", "snapshot"};
    private static final String[] REFUSED_BY_MINUS_ONE = {"prune", "sync"};

    private static long refused = 0;

    public static void main(String[] args) throws ReflectiveOperationException {
        Method[] methods = Draws.methodsOf(HistoricalTreeStore.class);
        for (int run = 0; run < RUNS && Checks.allAsDue(); run++) {
            Checks.part("run " + run);
            oneRun(new Draws(run), methods);
        }
        Checks.part("the runs themselves");
        Checks.due("coming to refused calls", refused > RUNS, true);
        Checks.finish();
    }

    private static void oneRun(Draws draws, Method[] methods) throws ReflectiveOperationException {
        HistoricalTreeStore called = new HistoricalTreeStore();
        HistoricalTreeStore twin = new HistoricalTreeStore();
        int done = 0;
        for (int call = 0; call < Draws.CALLS && Checks.allAsDue(); call++) {
            draws.draw(done);
            long got = draws.make(methods, called);
            if (isRefused(draws, got)) {
                refused++;
            } else {
                Checks.due("call " + call + ", " + draws, got, draws.make(methods, twin));
            }
            if (draws.is("commit")) {
                done = (int) got;
            }
        }
    }

    private static boolean isRefused(Draws call, long answer) {
        return (answer == 0 && isOneOf(call, REFUSED_BY_FALSE))
                || (answer == -1 && isOneOf(call, REFUSED_BY_MINUS_ONE));
    }

    private static boolean isOneOf(Draws call, String[] names) {
        for (String name : names) {
            if (call.is(name)) {
                return true;
            }
        }
        return false;
    }
}
