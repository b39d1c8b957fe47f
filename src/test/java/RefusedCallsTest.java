import java.util.function.Consumer;
import java.util.function.ToLongFunction;

/**
 * 'Changing nothing': in each state in which the document refuses a call, the calls behind the
 * refused one answer as if it had not been made. The same is asked of calls that have nothing to do.
 * The states hold as much as they can - snapshots, a found record, a mirror that is behind - and
 * come with and without a sync under way, so that whatever a refused call might change would show.
 */
public final class RefusedCallsTest {
    private static final int LOW = Looks.LOW;
    private static final int HIGH = Looks.HIGH;

    // Whether a sync is under way and questions go to the mirror, or neither.
    private static boolean underWay;
    private static String state;
    private static Consumer<HistoricalTreeStore> way;

    public static void main(String[] args) {
        inANewObject();
        withTheMirrorUpToDate();
        withAFullMirror();
        for (boolean each : new boolean[] {false, true}) {
            underWay = each;
            withNoOpenChange();
            withOpenChanges();
            withFortyChanges();
            withAFullMaster();
            withAFullMasterAndOpenChanges();
            withFourSnapshots();
        }
        Checks.finish();
    }

    /** Two snapshots, a found record, a mirror that has fallen behind; eight records, done 5. */
    private static void history(HistoricalTreeStore x) {
        Runs.fill(x, 0, 6);
        Runs.commitWrite(x, 1, 0, 50);
        Runs.commitRemove(x, 2, 0);
        Runs.syncAll(x);
        Runs.commitWrite(x, 1, 0, 51);
        Runs.commitRemove(x, 3, 0);
        Checks.due("snapshot to begin with", x.snapshot(1), true);
        Checks.due("snapshot to begin with", x.snapshot(4), true);
        Checks.due("next to begin with", x.next(0, 0, 4), true);
    }

    /** If a sync is to be under way, its goal is one transaction old; one record is added. */
    private static void fallBehind(HistoricalTreeStore x) {
        if (underWay) {
            Checks.due("sync to begin with", x.sync(2), 2);
        }
        Runs.commitWrite(x, 1, 0, 52);
        Checks.due("use to begin with", x.use(underWay ? 1 : 0), true);
    }

    /** Every sort of open change, three records added. */
    private static void change(HistoricalTreeStore x) {
        Checks.due("own", x.write(8, 0, 80), true);
        Checks.due("own, ended", x.write(9, 0, 90), true);
        Checks.due("own, ended", x.remove(9, 0), true);
        Checks.due("own, over an older one", x.write(1, 0, 53), true);
        Checks.due("an older one, ended", x.remove(4, 0), true);
    }

    private static void inANewObject() {
        in("a new object", x -> { });
        refused("remove", x -> bit(x.remove(0, 0)), 0);
        refused("next", x -> bit(x.next(LOW, LOW, 0)), 0);
        refused("sync 1", x -> x.sync(1), -1);
        refused("sync 50", x -> x.sync(50), -1);
        refused("commit", x -> x.commit(), 0);
        refused("abort", x -> x.abort(), 0);
        refused("crash", x -> x.crash(), 0);
        refused("prune", x -> x.prune(), 0);
        refusedEverywhere(0);
        questions();
    }

    private static void withNoOpenChange() {
        in("no open change", x -> {
            history(x);
            fallBehind(x);
        });
        refused("remove of none", x -> bit(x.remove(2, 0)), 0);
        refused("commit", x -> x.commit(), 6);
        refused("abort", x -> x.abort(), 0);
        refusedEverywhere(6);
        questions();
    }

    private static void withOpenChanges() {
        in("open changes", x -> {
            history(x);
            fallBehind(x);
            change(x);
        });
        removesOfNone();
        refused("prune", x -> x.prune(), -1);
        refused("next after all", x -> bit(x.next(9, 0, 7)), 0);
        refused("next at 0", x -> bit(x.next(LOW, LOW, 0)), 0);
        refusedEverywhere(6);
        questions();
    }

    private static void removesOfNone() {
        refused("remove of one never written", x -> bit(x.remove(7, 0)), 0);
        refused("remove of another key", x -> bit(x.remove(1, 1)), 0);
        refused("remove of one removed earlier", x -> bit(x.remove(2, 0)), 0);
        refused("remove of one the mirror still has", x -> bit(x.remove(3, 0)), 0);
        refused("remove of one removed now", x -> bit(x.remove(4, 0)), 0);
        refused("remove of an own one removed now", x -> bit(x.remove(9, 0)), 0);
    }

    private static void withFortyChanges() {
        in("forty changes", x -> {
            history(x);
            fallBehind(x);
            change(x);
            Runs.rewrite(x, 8, 0, 35);
        });
        refused("write to an own record", x -> bit(x.write(8, 0, 999)), 0);
        refused("write to an own ended record", x -> bit(x.write(9, 0, 999)), 0);
        refused("write to an own record over another", x -> bit(x.write(1, 0, 999)), 0);
        refused("write over an older record", x -> bit(x.write(5, 0, 999)), 0);
        refused("write over an ended record", x -> bit(x.write(4, 0, 999)), 0);
        refused("write of a new key", x -> bit(x.write(6, 0, 999)), 0);
        refused("remove of an own record", x -> bit(x.remove(8, 0)), 0);
        refused("remove of an older record", x -> bit(x.remove(5, 0)), 0);
        removesOfNone();
        refused("prune", x -> x.prune(), -1);
        refusedEverywhere(6);
    }

    private static void withAFullMaster() {
        in("a full master", x -> {
            history(x);
            Runs.fill(x, 10, 101);
            fallBehind(x);
        });
        refused("write of a new key", x -> bit(x.write(500, 0, 999)), 0);
        refused("write over a record", x -> bit(x.write(5, 0, 999)), 0);
        refused("write over an ended record", x -> bit(x.write(2, 0, 999)), 0);
        refused("remove of none", x -> bit(x.remove(500, 0)), 0);
        refused("commit", x -> x.commit(), 9);
        refused("abort", x -> x.abort(), 0);
        refusedEverywhere(9);
    }

    private static void withAFullMasterAndOpenChanges() {
        in("a full master with open changes", x -> {
            history(x);
            Runs.fill(x, 10, 98);
            fallBehind(x);
            change(x);
        });
        refused("write of a new key", x -> bit(x.write(500, 0, 999)), 0);
        refused("write over a record", x -> bit(x.write(5, 0, 999)), 0);
        refused("write over a record ended now", x -> bit(x.write(4, 0, 999)), 0);
        removesOfNone();
        refused("prune", x -> x.prune(), -1);
        refusedEverywhere(9);
    }

    private static void withFourSnapshots() {
        in("four snapshots", x -> {
            history(x);
            fallBehind(x);
            change(x);
            Checks.due("third", x.snapshot(0), true);
            Checks.due("fourth", x.snapshot(5), true);
        });
        for (int t : new int[] {2, 3, 6}) {
            refused("fifth, " + t, x -> bit(x.snapshot(t)), 0);
        }
        refusedEverywhere(6);
        questions();
    }

    private static void withTheMirrorUpToDate() {
        in("a mirror that is up to date", x -> {
            history(x);
            Runs.syncAll(x);
            change(x);
            x.use(1);
        });
        refused("sync 1", x -> x.sync(1), -1);
        refused("sync 50", x -> x.sync(50), -1);
        refused("prune", x -> x.prune(), -1);
        refusedEverywhere(5);
    }

    private static void withAFullMirror() {
        in("a full mirror", x -> {
            Runs.fillMirrorAlone(x, 80);
            Runs.fill(x, 0, 21);
            Checks.due("sync", x.sync(50), 20);
            Runs.commitWrite(x, 3, 0, 33);
            Checks.due("snapshot", x.snapshot(2), true);
            Checks.due("next", x.next(3, 0, 5), true);
            x.use(1);
        });
        refused("sync 1 that finds no room", x -> x.sync(1), 0);
        refused("sync 50 that finds no room", x -> x.sync(50), 0);
        refused("remove of none", x -> bit(x.remove(50, 0)), 0);
        refusedEverywhere(6);
    }

    /** What the document refuses in every state; done is the number of the last transaction. */
    private static void refusedEverywhere(int done) {
        for (int n : new int[] {0, -1, 51, LOW, HIGH}) {
            refused("sync " + n, x -> x.sync(n), -1);
        }
        for (int volume : new int[] {-1, 2, LOW, HIGH}) {
            refused("use " + volume, x -> bit(x.use(volume)), 0);
        }
        for (int t : new int[] {-1, done + 1, LOW, HIGH}) {
            refused("snapshot " + t, x -> bit(x.snapshot(t)), 0);
        }
        for (int which : new int[] {-1, 4, LOW, HIGH}) {
            refused("found " + which, x -> x.found(which), 0);
        }
        refused("next after the greatest", x -> bit(x.next(HIGH, HIGH, HIGH)), 0);
        refused("remove of a far key", x -> bit(x.remove(HIGH, LOW)), 0);
    }

    /** Questions change nothing either; these are about a key that is in no state. */
    private static void questions() {
        refused("has", x -> bit(x.has(-3, -3, 1)), 0);
        refused("read", x -> x.read(-3, -3, 1), 0);
        refused("size, done and synced", x -> {
            x.size();
            x.done();
            x.synced();
            return 0;
        }, 0);
    }

    private static void in(String name, Consumer<HistoricalTreeStore> calls) {
        state = name + (underWay ? " and a sync under way" : "");
        way = calls;
    }

    private static void refused(String call, ToLongFunction<HistoricalTreeStore> made, long answer) {
        Twins.changesNothing(state, way, call, made, answer);
    }

    private static long bit(boolean answer) {
        return answer ? 1 : 0;
    }
}
