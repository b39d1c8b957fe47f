import java.util.function.Consumer;
import java.util.function.ToLongFunction;

/**
 * 'Changing nothing': in each state of which the document refuses a call, the calls behind the
 * refused one answer as if it had not been made. The same is asked of calls that have nothing to do.
 */
public final class RefusedCallsTest {
    private static final int LOW = Looks.LOW;
    private static final int HIGH = Looks.HIGH;
    private static final int[] NO_COUNTS = {0, -1, 51, LOW, HIGH};

    private static String state;
    private static Consumer<HistoricalTreeStore> way;

    public static void main(String[] args) {
        inANewObject();
        withOpenChanges();
        withOpenChangesAskingTheMirror();
        withFortyChanges();
        withAFullMaster();
        withAFullMasterAndOpenChanges();
        withASyncUnderWay();
        withFourSnapshots();
        withTheMirrorUpToDate();
        withAFullMirror();
        Checks.finish();
    }

    private static void inANewObject() {
        in("a new object", x -> { });
        refused("remove", x -> bit(x.remove(0, 0)), 0);
        refused("next", x -> bit(x.next(LOW, LOW, 0)), 0);
        refused("sync 1", x -> x.sync(1), -1);
        refused("sync 50", x -> x.sync(50), -1);
        refused("snapshot 1", x -> bit(x.snapshot(1)), 0);
        refusedEverywhere(0);
        refused("commit", x -> x.commit(), 0);
        refused("abort", x -> x.abort(), 0);
        refused("crash", x -> x.crash(), 0);
        refused("prune", x -> x.prune(), 0);
        questions();
    }

    /** Two snapshots, a mirror that is behind, a found record, and every sort of open change. */
    private static void history(HistoricalTreeStore x) {
        Runs.fill(x, 0, 6);
        Runs.commitWrite(x, 1, 0, 50);
        Runs.commitRemove(x, 2, 0);
        Runs.syncAll(x);
        Runs.commitWrite(x, 1, 0, 51);
        Runs.commitRemove(x, 3, 0);
        x.snapshot(1);
        x.snapshot(4);
        x.next(0, 0, 4);
    }

    private static void openChanges(HistoricalTreeStore x) {
        history(x);
        Checks.due("own", x.write(8, 0, 80), true);
        Checks.due("own, ended", x.write(9, 0, 90), true);
        Checks.due("own, ended", x.remove(9, 0), true);
        Checks.due("own, over an older one", x.write(1, 0, 52), true);
        Checks.due("an older one, ended", x.remove(4, 0), true);
    }

    private static void withOpenChanges() {
        in("open changes", RefusedCallsTest::openChanges);
        removesOfNone();
        refused("snapshot of done + 1", x -> bit(x.snapshot(6)), 0);
        refused("prune", x -> x.prune(), -1);
        refused("next after all", x -> bit(x.next(8, 0, 6)), 0);
        refused("next at 0", x -> bit(x.next(LOW, LOW, 0)), 0);
        refusedEverywhere(5);
        questions();
    }

    private static void withOpenChangesAskingTheMirror() {
        in("open changes, questions to the mirror", x -> {
            openChanges(x);
            x.use(1);
        });
        removesOfNone();
        refused("prune", x -> x.prune(), -1);
        refused("next after all", x -> bit(x.next(5, 0, 6)), 0);
        refusedEverywhere(5);
        questions();
    }

    private static void removesOfNone() {
        refused("remove of one never written", x -> bit(x.remove(7, 0)), 0);
        refused("remove of another key", x -> bit(x.remove(1, 1)), 0);
        refused("remove of one removed earlier", x -> bit(x.remove(2, 0)), 0);
        refused("remove of one the mirror still has", x -> bit(x.remove(3, 0)), 0);
        refused("remove of one removed now", x -> bit(x.remove(4, 0)), 0);
        refused("remove of an own one removed now", x -> bit(x.remove(9, 0)), 0);
    }

    private static void withFortyChanges() {
        in("forty changes", x -> {
            openChanges(x);
            Runs.rewrite(x, 8, 0, 35);
        });
        refused("write to an own record", x -> bit(x.write(8, 0, 999)), 0);
        refused("write to an own ended record", x -> bit(x.write(9, 0, 999)), 0);
        refused("write over a new version", x -> bit(x.write(1, 0, 999)), 0);
        refused("write over an older record", x -> bit(x.write(5, 0, 999)), 0);
        refused("write over an ended record", x -> bit(x.write(4, 0, 999)), 0);
        refused("write of a new key", x -> bit(x.write(6, 0, 999)), 0);
        refused("remove of an own record", x -> bit(x.remove(8, 0)), 0);
        refused("remove of an older record", x -> bit(x.remove(5, 0)), 0);
        removesOfNone();
        refused("prune", x -> x.prune(), -1);
        refusedEverywhere(5);
    }

    private static void withAFullMaster() {
        in("a full master", x -> Runs.fill(x, 0, 100));
        refused("write of a new key", x -> bit(x.write(500, 0, 999)), 0);
        refused("write over a record", x -> bit(x.write(7, 0, 999)), 0);
        refused("remove of none", x -> bit(x.remove(500, 0)), 0);
        refused("commit", x -> x.commit(), 3);
        refused("abort", x -> x.abort(), 0);
        refused("prune", x -> x.prune(), 0);
        refusedEverywhere(3);
    }

    private static void withAFullMasterAndOpenChanges() {
        in("a full master with open changes", x -> {
            Runs.fill(x, 0, 98);
            Checks.due("own", x.write(500, 0, 1), true);
            Checks.due("own, over an older one", x.write(6, 0, 60), true);
            Checks.due("an older one, ended", x.remove(5, 0), true);
        });
        refused("write of a new key", x -> bit(x.write(501, 0, 999)), 0);
        refused("write over a record", x -> bit(x.write(7, 0, 999)), 0);
        refused("write over an ended record", x -> bit(x.write(5, 0, 999)), 0);
        refused("remove of the ended record", x -> bit(x.remove(5, 0)), 0);
        refused("prune", x -> x.prune(), -1);
        refusedEverywhere(3);
    }

    private static void withASyncUnderWay() {
        in("a sync under way", x -> {
            history(x);
            Checks.due("sync", x.sync(2), 2);
            Runs.commitWrite(x, 1, 0, 52);
            x.use(1);
        });
        refused("snapshot of done + 1", x -> bit(x.snapshot(7)), 0);
        refused("remove of none", x -> bit(x.remove(2, 0)), 0);
        refused("commit", x -> x.commit(), 6);
        refused("abort", x -> x.abort(), 0);
        refusedEverywhere(6);
        questions();
    }

    private static void withFourSnapshots() {
        in("four snapshots", x -> {
            history(x);
            Checks.due("third", x.snapshot(0), true);
            Checks.due("fourth", x.snapshot(5), true);
        });
        refused("fifth", x -> bit(x.snapshot(2)), 0);
        refused("fifth", x -> bit(x.snapshot(3)), 0);
        refused("snapshot of done + 1", x -> bit(x.snapshot(6)), 0);
        refused("commit", x -> x.commit(), 5);
        refused("abort", x -> x.abort(), 0);
        refused("crash", x -> x.crash(), 0);
        refusedEverywhere(5);
        questions();
    }

    private static void withTheMirrorUpToDate() {
        in("a mirror that is up to date", x -> {
            history(x);
            Runs.syncAll(x);
            Checks.due("an open change", x.write(7, 0, 70), true);
        });
        refused("sync 1", x -> x.sync(1), -1);
        refused("sync 50", x -> x.sync(50), -1);
        refused("prune", x -> x.prune(), -1);
        refusedEverywhere(5);
    }

    private static void withAFullMirror() {
        in("a full mirror", x -> {
            Runs.fillMirrorAlone(x, 80);
            Runs.fill(x, 0, 21);
            Checks.due("sync", x.sync(50), 20);
        });
        refused("sync 1 that finds no room", x -> x.sync(1), 0);
        refused("sync 50 that finds no room", x -> x.sync(50), 0);
        refused("remove of none", x -> bit(x.remove(50, 0)), 0);
        refusedEverywhere(5);
    }

    /** What the document refuses in every state; done is the number of the last transaction. */
    private static void refusedEverywhere(int done) {
        for (int n : NO_COUNTS) {
            refused("sync " + n, x -> x.sync(n), -1);
        }
        for (int volume : new int[] {-1, 2, LOW, HIGH}) {
            refused("use " + volume, x -> bit(x.use(volume)), 0);
        }
        for (int t : new int[] {-1, done + 1, LOW, HIGH}) {
            refused("snapshot " + t, x -> bit(x.snapshot(t)), 0);
        }
        for (int which : new int[] {-1, 4, LOW, HIGH}) {
            refused("found " + which, x -> x.found(which), 0);
        }
        refused("next after the greatest", x -> bit(x.next(HIGH, HIGH, HIGH)), 0);
        refused("remove of a far key", x -> bit(x.remove(HIGH, LOW)), 0);
    }

    /** Questions about a key that is nowhere, so that their answers do not depend on the state. */
    private static void questions() {
        refused("has", x -> bit(x.has(-3, -3, 1)), 0);
        refused("read", x -> x.read(-3, -3, 1), 0);
        refused("size, done and synced", x -> {
            x.size();
            x.done();
            x.synced();
            return 0;
        }, 0);
    }

    private static void in(String name, Consumer<HistoricalTreeStore> calls) {
        state = name;
        way = calls;
    }

    private static void refused(String call, ToLongFunction<HistoricalTreeStore> made, long answer) {
        Twins.changesNothing(state, way, call, made, answer);
    }

    private static long bit(boolean answer) {
        return answer ? 1 : 0;
    }
}
