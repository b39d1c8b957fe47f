/** Promises 12 and 13: snapshot and prune. */
public final class SnapshotsTest {
    public static void main(String[] args) {
        snapshotComesAndGoes();
        snapshotRefusesTimes();
        snapshotRefusesAFifth();
        pruneWaitsForTheMirror();
        pruneKeepsWhatSnapshotsSee();
        pruneOfTheMirrorGoesUpToDone();
        pruneDuringASync();
        pruneRefusesInAChangedTransaction();
        Checks.finish();
    }

    private static void snapshotComesAndGoes() {
        Checks.part("promise 12, snapshot on and off");
        HistoricalTreeStore x = new HistoricalTreeStore();
        Runs.commitWrites(x, 1, 1, 3);
        Checks.due("sync", x.sync(50), 3);
        Checks.due("snapshot 1", x.snapshot(1), true);
        Checks.due("prune", x.prune(), 1);
        Checks.due("kept", x.read(1, 1, 1), 1);
        Checks.due("gone", x.has(1, 1, 2), false);
        Checks.due("snapshot 1 no longer", x.snapshot(1), true);
        Checks.due("prune", x.prune(), 1);
        Checks.due("gone", x.has(1, 1, 1), false);
        Checks.due("the living one stays", x.read(1, 1, 3), 3);
        Checks.due("snapshot 1 anew", x.snapshot(1), true);
    }

    private static void snapshotRefusesTimes() {
        Checks.part("promise 12, times");
        HistoricalTreeStore x = new HistoricalTreeStore();
        Checks.due("above done", x.snapshot(1), false);
        Checks.due("0 of a new object", x.snapshot(0), true);
        Runs.commitWrites(x, 1, 1, 2);
        Checks.due("write", x.write(1, 1, 1), true);
        Checks.due("done", x.snapshot(2), true);
        Checks.due("the open transaction", x.snapshot(3), false);
        Checks.due("below 0", x.snapshot(-1), false);
        Checks.due("least", x.snapshot(Integer.MIN_VALUE), false);
        Checks.due("greatest", x.snapshot(Integer.MAX_VALUE), false);
        Checks.due("refused ones take no room", x.snapshot(1), true);
        Checks.due("commit", x.commit(), 3);
        Checks.due("done now", x.snapshot(3), true);
    }

    private static void snapshotRefusesAFifth() {
        Checks.part("promise 12, four others");
        HistoricalTreeStore x = new HistoricalTreeStore();
        Runs.commitWrites(x, 1, 1, 6);
        for (int t = 1; t <= 4; t++) {
            Checks.due("snapshot " + t, x.snapshot(t), true);
        }
        Checks.due("fifth", x.snapshot(5), false);
        Checks.due("fifth again", x.snapshot(5), false);
        Checks.due("sync", x.sync(50), 6);
        Checks.due("the refused one keeps nothing", x.prune(), 1);
        Checks.due("gone", x.has(1, 1, 5), false);
        Checks.due("the first of four goes", x.snapshot(1), true);
        Checks.due("a fourth", x.snapshot(6), true);
        Checks.due("a fifth", x.snapshot(0), false);
        Checks.due("the last of four goes", x.snapshot(6), true);
        Checks.due("a fourth", x.snapshot(0), true);
        Checks.due("prune", x.prune(), 1);
        Checks.due("no snapshot any more", x.has(1, 1, 1), false);
        for (int t = 2; t <= 4; t++) {
            Checks.due("still kept " + t, x.read(1, 1, t), t);
            Checks.due("still a snapshot " + t, x.snapshot(t), true);
        }
        Checks.due("prune", x.prune(), 3);
        Checks.due("size", x.size(), 1);
    }

    private static void pruneWaitsForTheMirror() {
        Checks.part("promise 13, master");
        HistoricalTreeStore x = new HistoricalTreeStore();
        Runs.commitWrites(x, 1, 1, 3);
        Checks.due("mirror at 0", x.prune(), 0);
        Checks.due("sync", x.sync(50), 3);
        Runs.commitWrites(x, 1, 1, 2);
        Checks.due("mirror at 3", x.prune(), 2);
        Checks.due("size", x.size(), 3);
        Checks.due("gone at 2", x.has(1, 1, 2), false);
        Checks.due("there at 3", x.read(1, 1, 3), 3);
        Checks.due("there at 4", x.read(1, 1, 4), 4);
        Checks.due("prune again", x.prune(), 0);
        Checks.due("sync", x.sync(50), 3);
        Checks.due("mirror at 5", x.prune(), 2);
        Checks.due("the living one stays", x.read(1, 1, 5), 5);
        Checks.due("use", x.use(1), true);
        Checks.due("the mirror was not pruned", x.size(), 5);
    }

    private static void pruneKeepsWhatSnapshotsSee() {
        Checks.part("promise 13, snapshots");
        HistoricalTreeStore x = new HistoricalTreeStore();
        Runs.commitWrites(x, 1, 1, 2);
        Runs.commitWrites(x, 9, 9, 2);
        Runs.commitWrites(x, 1, 1, 2);
        Checks.due("sync", x.sync(50), 6);
        Checks.due("at its birth", x.snapshot(2), true);
        Checks.due("prune", x.prune(), 3);
        Checks.due("kept", x.read(1, 1, 4), 2);
        Checks.due("off", x.snapshot(2), true);
        Checks.due("just before its end", x.snapshot(4), true);
        Checks.due("prune", x.prune(), 0);
        Checks.due("off", x.snapshot(4), true);
        Checks.due("at its end", x.snapshot(5), true);
        Checks.due("before its birth", x.snapshot(1), true);
        Checks.due("prune", x.prune(), 1);
        Checks.due("gone", x.has(1, 1, 2), false);
        Checks.due("size", x.size(), 2);
    }

    private static void pruneOfTheMirrorGoesUpToDone() {
        Checks.part("promise 13, mirror");
        HistoricalTreeStore x = new HistoricalTreeStore();
        Runs.commitWrites(x, 1, 1, 3);
        Checks.due("sync a part", x.sync(2), 2);
        Checks.due("crash", x.crash(), 0);
        Checks.due("use", x.use(1), true);
        Checks.due("ends above synced count", x.prune(), 2);
        Checks.due("size", x.size(), 0);
        Checks.due("sent again", x.sync(50), 3);
        Checks.due("size", x.size(), 3);
        Checks.due("snapshot", x.snapshot(1), true);
        Checks.due("prune", x.prune(), 1);
        Checks.due("kept", x.read(1, 1, 1), 1);
        Checks.due("the living one stays", x.read(1, 1, 3), 3);
        Checks.due("use", x.use(0), true);
        Checks.due("the master was not pruned", x.size(), 3);
    }

    private static void pruneDuringASync() {
        Checks.part("promise 13, during a sync");
        HistoricalTreeStore x = new HistoricalTreeStore();
        Runs.commitWrites(x, 1, 1, 2);
        Checks.due("sync", x.sync(50), 2);
        Runs.commitWrites(x, 1, 1, 2);
        Checks.due("sync a part", x.sync(2), 2);
        Checks.due("under way", x.synced(), 1000002);
        Checks.due("the goal does not count yet", x.prune(), 1);
        Checks.due("size", x.size(), 3);
        Checks.due("the rest", x.sync(2), 1);
        Checks.due("now it counts", x.prune(), 2);
    }

    private static void pruneRefusesInAChangedTransaction() {
        Checks.part("promise 13, changes accepted");
        HistoricalTreeStore x = new HistoricalTreeStore();
        Runs.commitWrites(x, 1, 1, 2);
        Checks.due("sync", x.sync(50), 2);
        Checks.due("write", x.write(5, 5, 5), true);
        Checks.due("prune", x.prune(), -1);
        Checks.due("nothing taken", x.size(), 3);
        Checks.due("use", x.use(1), true);
        Checks.due("prune of the mirror", x.prune(), -1);
        Checks.due("nothing taken", x.size(), 2);
        Checks.due("abort", x.abort(), 1);
        Checks.due("a refused remove", x.remove(5, 5), false);
        Checks.due("prune of the mirror", x.prune(), 1);
        Checks.due("use", x.use(0), true);
        Checks.due("remove", x.remove(1, 1), true);
        Checks.due("prune", x.prune(), -1);
        Checks.due("commit", x.commit(), 3);
        Checks.due("prune", x.prune(), 1);
    }
}
