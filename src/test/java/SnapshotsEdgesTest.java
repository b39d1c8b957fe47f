/** The edges that promises 12 and 13, snapshot and prune, name; one test to a sentence. */
public final class SnapshotsEdgesTest {
    private static final int LOW = Looks.LOW;
    private static final int HIGH = Looks.HIGH;

    public static void main(String[] args) {
        snapshotOnAndOff();
        snapshotBelowZero();
        snapshotAboveDone();
        snapshotWithFourOthers();
        snapshotOffWhenThereAreFour();
        snapshotRefusedLeavesTheFour();
        snapshotRefusedIsNoneLater();
        snapshotDuringATransaction();
        pruneOfAnEmptyVolume();
        pruneLeavesTheLiving();
        pruneUpToDone();
        pruneOfTheMasterUpToTheMirror();
        pruneOfTheMasterDuringASync();
        pruneOfTheMirrorIsNotBoundBySynced();
        pruneAtTheEdgesOfASnapshot();
        pruneAtTheEdgesOfASnapshotInTheMirror();
        pruneWithEachOfFourSnapshots();
        pruneWithTwoSnapshotsOfOneRecord();
        pruneWithSnapshotZero();
        pruneTellsHowMany();
        pruneOfOneVolumeOnly();
        pruneOfAFullVolume();
        pruneWithAChangeAccepted();
        pruneWithNoChangeAccepted();
        pruneChangesNoHistoryAtSnapshots();
        Checks.finish();
    }

    private static void snapshotOnAndOff() {
        Checks.part("promise 12, 'a snapshot if it is none, else it is one no longer'");
        HistoricalTreeStore x = new HistoricalTreeStore();
        Runs.commitWrites(x, 1, 1, 2);
        Runs.syncAll(x);
        Checks.due("on", x.snapshot(1), true);
        Checks.due("kept", x.prune(), 0);
        Checks.due("off", x.snapshot(1), true);
        Checks.due("on again", x.snapshot(1), true);
        Checks.due("kept", x.prune(), 0);
        Checks.due("off again", x.snapshot(1), true);
        Checks.due("not kept", x.prune(), 1);
    }

    private static void snapshotBelowZero() {
        Checks.part("promise 12, 'false if t is below 0'");
        HistoricalTreeStore x = new HistoricalTreeStore();
        Runs.commitWrites(x, 1, 1, 4);
        Checks.due("-1", x.snapshot(-1), false);
        Checks.due("-2", x.snapshot(-2), false);
        Checks.due("the least", x.snapshot(LOW), false);
        Checks.due("0", x.snapshot(0), true);
        Checks.due("1", x.snapshot(1), true);
        Checks.due("the refused ones took no room", x.snapshot(2), true);
        Checks.due("the refused ones took no room", x.snapshot(3), true);
        Checks.due("-1 again", x.snapshot(-1), false);
        Checks.due("a fifth", x.snapshot(4), false);
    }

    private static void snapshotAboveDone() {
        Checks.part("promise 12, 'or above done'");
        HistoricalTreeStore x = new HistoricalTreeStore();
        Checks.due("done 0: 1", x.snapshot(1), false);
        Checks.due("done 0: 0", x.snapshot(0), true);
        Runs.commitWrites(x, 1, 1, 3);
        Checks.due("done 3: 4", x.snapshot(4), false);
        Checks.due("done 3: 5", x.snapshot(5), false);
        Checks.due("done 3: the greatest", x.snapshot(HIGH), false);
        Checks.due("done 3: 3", x.snapshot(3), true);
        Checks.due("done 3: 2", x.snapshot(2), true);
        Checks.due("done 3: 1", x.snapshot(1), true);
        Checks.due("off, while there are four", x.snapshot(0), true);
        Runs.commitWrites(x, 1, 1, 1);
        Checks.due("done 4: 4", x.snapshot(4), true);
        Checks.due("done 4: 5", x.snapshot(5), false);
    }

    private static void snapshotWithFourOthers() {
        Checks.part("promise 12, 'or 4 other snapshots are there'");
        HistoricalTreeStore x = new HistoricalTreeStore();
        Runs.commitWrites(x, 1, 1, 6);
        Checks.due("none other", x.snapshot(1), true);
        Checks.due("1 other", x.snapshot(2), true);
        Checks.due("2 others", x.snapshot(3), true);
        Checks.due("3 others", x.snapshot(4), true);
        Checks.due("4 others", x.snapshot(5), false);
        Checks.due("4 others, again", x.snapshot(5), false);
        Checks.due("4 others, t 0", x.snapshot(0), false);
        Checks.due("4 others, t done", x.snapshot(6), false);
        Checks.due("one goes", x.snapshot(4), true);
        Checks.due("3 others", x.snapshot(5), true);
        Checks.due("4 others", x.snapshot(4), false);
    }

    private static void snapshotOffWhenThereAreFour() {
        Checks.part("promise 12, one of four is no other");
        for (int off = 1; off <= 4; off++) {
            HistoricalTreeStore x = new HistoricalTreeStore();
            Runs.commitWrites(x, 1, 1, 6);
            Runs.syncAll(x);
            for (int t = 1; t <= 4; t++) {
                Checks.due("snapshot " + t, x.snapshot(t), true);
            }
            Checks.due("off " + off, x.snapshot(off), true);
            Checks.due("prune", x.prune(), 2);
            for (int t = 1; t <= 4; t++) {
                Checks.due("kept " + t, x.has(1, 1, t), t != off);
            }
            Checks.due("3 others", x.snapshot(6), true);
            Checks.due("4 others", x.snapshot(5), false);
        }
    }

    private static void snapshotRefusedLeavesTheFour() {
        Checks.part("promise 12, 4 others, 'changing nothing'");
        HistoricalTreeStore x = new HistoricalTreeStore();
        Runs.commitWrites(x, 1, 1, 7);
        Runs.syncAll(x);
        for (int t = 2; t <= 5; t++) {
            Checks.due("snapshot " + t, x.snapshot(t), true);
        }
        for (int t : new int[] {6, 1, 0, 7, 8, -1, LOW, HIGH}) {
            Checks.due("refused " + t, x.snapshot(t), false);
        }
        Checks.due("prune", x.prune(), 2);
        for (int t = 1; t <= 7; t++) {
            Checks.due("kept " + t, x.has(1, 1, t), t != 1 && t != 6);
        }
        for (int t = 2; t <= 5; t++) {
            Checks.due("off " + t, x.snapshot(t), true);
            Checks.due("prune", x.prune(), 1);
        }
        Checks.due("size", x.size(), 1);
    }

    private static void snapshotRefusedIsNoneLater() {
        Checks.part("promise 12, above done, 'changing nothing'");
        HistoricalTreeStore x = new HistoricalTreeStore();
        Runs.commitWrites(x, 1, 1, 1);
        Checks.due("refused", x.snapshot(2), false);
        Runs.commitWrites(x, 1, 1, 2);
        Runs.syncAll(x);
        Checks.due("it keeps nothing", x.prune(), 2);
        Checks.due("gone", x.has(1, 1, 2), false);
        Checks.due("it is none: on", x.snapshot(2), true);
        Checks.due("four fit", x.snapshot(0), true);
        Checks.due("four fit", x.snapshot(1), true);
        Checks.due("four fit", x.snapshot(3), true);
    }

    private static void snapshotDuringATransaction() {
        Checks.part("promise 12, while changes are open");
        HistoricalTreeStore x = new HistoricalTreeStore();
        Runs.commitWrites(x, 1, 1, 1);
        Checks.due("write", x.write(1, 1, 2), true);
        Checks.due("done + 1", x.snapshot(2), false);
        Checks.due("done", x.snapshot(1), true);
        Checks.due("use", x.use(1), true);
        Checks.due("the volume does not matter", x.snapshot(0), true);
        Checks.due("it is no change", x.commit(), 2);
        Runs.syncAll(x);
        Checks.due("prune", x.prune(), 0);
        Checks.due("kept in the mirror", x.read(1, 1, 1), 1);
        Checks.due("use", x.use(0), true);
        Checks.due("prune", x.prune(), 0);
        Checks.due("kept in the master", x.read(1, 1, 1), 1);
    }

    private static void pruneOfAnEmptyVolume() {
        Checks.part("promise 13, an empty volume");
        HistoricalTreeStore x = new HistoricalTreeStore();
        Checks.due("master", x.prune(), 0);
        Checks.due("use", x.use(1), true);
        Checks.due("mirror", x.prune(), 0);
        Runs.commitWrites(x, 1, 1, 3);
        Checks.due("mirror, the master is not", x.prune(), 0);
        Checks.due("size", x.size(), 0);
    }

    private static void pruneLeavesTheLiving() {
        Checks.part("promise 13, 'died not 0'");
        HistoricalTreeStore x = new HistoricalTreeStore();
        Runs.fill(x, 0, 5);
        Runs.commitRemove(x, 2, 0);
        Runs.commitNothing(x, 3);
        Runs.syncAll(x);
        for (int volume = 0; volume <= 1; volume++) {
            Checks.due("use", x.use(volume), true);
            Checks.due("prune", x.prune(), 1);
            for (int obj = 0; obj < 5; obj++) {
                Checks.due("stays " + obj, x.read(obj, 0, 1), obj == 2 ? 0 : obj + 1);
            }
            Checks.due("nothing more", x.prune(), 0);
            Checks.due("size", x.size(), 4);
        }
    }

    private static void pruneUpToDone() {
        Checks.part("promise 13, 'died <= done'");
        HistoricalTreeStore x = new HistoricalTreeStore();
        Runs.fill(x, 0, 3);
        Runs.commitRemove(x, 0, 0);
        Runs.commitRemove(x, 1, 0);
        Runs.syncAll(x);
        Checks.due("use", x.use(1), true);
        Checks.due("died done - 1 and died done", x.prune(), 2);
        Checks.due("use", x.use(0), true);
        Checks.due("died done - 1 and died done", x.prune(), 2);
        Checks.due("died done + 1: remove", x.remove(2, 0), true);
        Checks.due("a change is open", x.prune(), -1);
        Checks.due("commit", x.commit(), 4);
        Checks.due("died done, the mirror does not know", x.prune(), 0);
        Runs.syncAll(x);
        Checks.due("died done, the mirror knows", x.prune(), 1);
    }

    private static void pruneOfTheMasterUpToTheMirror() {
        Checks.part("promise 13, 'died is at most the number up to which the mirror is "
                + "synchronised'");
        HistoricalTreeStore x = new HistoricalTreeStore();
        Runs.fill(x, 0, 4);
        Runs.commitRemove(x, 0, 0);
        Runs.commitRemove(x, 1, 0);
        Checks.due("m 0", x.prune(), 0);
        Runs.syncAll(x);
        Runs.commitRemove(x, 2, 0);
        Runs.commitRemove(x, 3, 0);
        Checks.due("died m - 1 and m, not m + 1 and m + 2", x.prune(), 2);
        Checks.due("died m - 1", x.has(0, 0, 1), false);
        Checks.due("died m", x.has(1, 0, 1), false);
        Checks.due("died m + 1", x.has(2, 0, 1), true);
        Checks.due("died m + 2", x.has(3, 0, 1), true);
        Checks.due("nothing more", x.prune(), 0);
        Runs.syncAll(x);
        Checks.due("the mirror has caught up", x.prune(), 2);
        Checks.due("size", x.size(), 0);
    }

    private static void pruneOfTheMasterDuringASync() {
        Checks.part("promise 13, a goal that is not reached does not count");
        HistoricalTreeStore x = new HistoricalTreeStore();
        Runs.fill(x, 0, 4);
        Runs.syncAll(x);
        Runs.commitRemove(x, 0, 0);
        Runs.commitRemove(x, 1, 0);
        Checks.due("one of two", x.sync(1), 1);
        Checks.due("nor what was sent", x.prune(), 0);
        Checks.due("crash", x.crash(), 0);
        Checks.due("given up", x.prune(), 0);
        Checks.due("both", x.sync(2), 2);
        Checks.due("reached", x.prune(), 2);
    }

    private static void pruneOfTheMirrorIsNotBoundBySynced() {
        Checks.part("promise 13, 'from the master only'");
        HistoricalTreeStore x = new HistoricalTreeStore();
        Runs.fill(x, 0, 4);
        Runs.syncAll(x);
        Runs.commitRemove(x, 0, 0);
        Runs.commitRemove(x, 1, 0);
        Runs.commitRemove(x, 2, 0);
        Checks.due("two of three", x.sync(2), 2);
        Checks.due("synced", x.synced(), 1000001);
        Checks.due("use", x.use(1), true);
        Checks.due("died m + 1 and m + 2 go, the one not yet sent stays", x.prune(), 2);
        Checks.due("gone", x.has(0, 0, 1), false);
        Checks.due("gone", x.has(1, 0, 1), false);
        Checks.due("stays", x.read(2, 0, 5), 3);
        Checks.due("the sync goes on", x.sync(2), 1);
        Checks.due("synced", x.synced(), 4);
        Checks.due("now it goes", x.prune(), 1);
        Checks.due("size", x.size(), 1);
    }

    private static void pruneAtTheEdgesOfASnapshot() {
        Checks.part("promise 13, 'visible at no snapshot', master");
        for (int t = 2; t <= 8; t++) {
            HistoricalTreeStore x = lifeFromFourToSeven();
            Checks.due("snapshot " + t, x.snapshot(t), true);
            boolean keeps = t >= 4 && t <= 6;
            Checks.due("prune with snapshot " + t, x.prune(), keeps ? 0 : 1);
            Checks.due("has with snapshot " + t, x.has(1, 1, 5), keeps);
            Checks.due("snapshot off " + t, x.snapshot(t), true);
            Checks.due("prune without", x.prune(), keeps ? 1 : 0);
            Checks.due("size", x.size(), 0);
        }
    }

    private static void pruneAtTheEdgesOfASnapshotInTheMirror() {
        Checks.part("promise 13, 'visible at no snapshot', mirror");
        for (int t = 2; t <= 8; t++) {
            HistoricalTreeStore x = lifeFromFourToSeven();
            Checks.due("use", x.use(1), true);
            Checks.due("snapshot " + t, x.snapshot(t), true);
            boolean keeps = t >= 4 && t <= 6;
            Checks.due("prune with snapshot " + t, x.prune(), keeps ? 0 : 1);
            Checks.due("has with snapshot " + t, x.has(1, 1, 5), keeps);
            Looks.sizesAre(x, 1, keeps ? 1 : 0);
        }
    }

    private static HistoricalTreeStore lifeFromFourToSeven() {
        HistoricalTreeStore x = new HistoricalTreeStore();
        Runs.commitNothing(x, 3);
        Runs.commitWrite(x, 1, 1, 10);
        Runs.commitNothing(x, 2);
        Runs.commitRemove(x, 1, 1);
        Runs.commitNothing(x, 2);
        Runs.syncAll(x);
        return x;
    }

    private static void pruneWithEachOfFourSnapshots() {
        Checks.part("promise 13, each of four snapshots keeps its records");
        HistoricalTreeStore x = new HistoricalTreeStore();
        Runs.commitWrites(x, 1, 1, 10);
        Runs.syncAll(x);
        for (int t : new int[] {8, 2, 6, 4}) {
            Checks.due("snapshot " + t, x.snapshot(t), true);
        }
        for (int volume = 0; volume <= 1; volume++) {
            Checks.due("use", x.use(volume), true);
            Checks.due("prune", x.prune(), 5);
            for (int t = 1; t <= 10; t++) {
                boolean kept = t == 10 || (t % 2 == 0);
                Checks.due("has at " + t, x.has(1, 1, t), kept);
            }
        }
        Checks.due("one goes", x.snapshot(8), true);
        Checks.due("and its record with it", x.prune(), 1);
        Checks.due("size", x.size(), 4);
    }

    private static void pruneWithTwoSnapshotsOfOneRecord() {
        Checks.part("promise 13, a record that two snapshots see");
        HistoricalTreeStore x = lifeFromFourToSeven();
        Checks.due("at born", x.snapshot(4), true);
        Checks.due("just before died", x.snapshot(6), true);
        Checks.due("both keep it", x.prune(), 0);
        Checks.due("the first goes", x.snapshot(4), true);
        Checks.due("the second keeps it", x.prune(), 0);
        Checks.due("at died instead", x.snapshot(7), true);
        Checks.due("the second goes", x.snapshot(6), true);
        Checks.due("nothing keeps it", x.prune(), 1);
    }

    private static void pruneWithSnapshotZero() {
        Checks.part("promise 13, a snapshot at 0 sees nothing");
        HistoricalTreeStore x = new HistoricalTreeStore();
        Checks.due("snapshot", x.snapshot(0), true);
        Runs.commitWrites(x, 1, 1, 3);
        Runs.syncAll(x);
        Checks.due("prune", x.prune(), 2);
        Checks.due("size", x.size(), 1);
    }

    private static void pruneTellsHowMany() {
        Checks.part("promise 13, 'answers how many'");
        HistoricalTreeStore x = new HistoricalTreeStore();
        Runs.fill(x, 0, 40);
        Runs.syncAll(x);
        Checks.due("none", x.prune(), 0);
        Runs.commitRemove(x, 39, 0);
        Runs.syncAll(x);
        Checks.due("one, the last", x.prune(), 1);
        Runs.commitRemove(x, 0, 0);
        Runs.syncAll(x);
        Checks.due("one, the first", x.prune(), 1);
        Runs.endAll(x, 1, 39);
        Runs.syncAll(x);
        Checks.due("all", x.prune(), 38);
        Checks.due("none is left", x.size(), 0);
        Checks.due("none", x.prune(), 0);
        Runs.commitWrites(x, 5, 5, 1);
        Checks.due("a pruned volume takes records", x.size(), 1);
    }

    private static void pruneOfOneVolumeOnly() {
        Checks.part("promise 13, 'from the volume that questions go to'");
        HistoricalTreeStore x = new HistoricalTreeStore();
        Runs.commitWrites(x, 1, 1, 4);
        Runs.syncAll(x);
        Looks.sizesAre(x, 4, 4);
        Checks.due("prune the master", x.prune(), 3);
        Looks.sizesAre(x, 1, 4);
        Checks.due("use", x.use(1), true);
        Checks.due("history in the mirror", x.read(1, 1, 2), 2);
        Checks.due("prune the mirror", x.prune(), 3);
        Looks.sizesAre(x, 1, 1);
    }

    private static void pruneOfAFullVolume() {
        Checks.part("promise 13, a hundred records");
        HistoricalTreeStore x = new HistoricalTreeStore();
        Runs.commitWrites(x, 1, 1, 100);
        Runs.syncAll(x);
        Checks.due("snapshot", x.snapshot(50), true);
        Checks.due("master", x.prune(), 98);
        Checks.due("kept", x.read(1, 1, 50), 50);
        Checks.due("newest", x.read(1, 1, 100), 100);
        Checks.due("use", x.use(1), true);
        Checks.due("mirror", x.prune(), 98);
        Checks.due("kept", x.read(1, 1, 50), 50);
        Checks.due("newest", x.read(1, 1, 100), 100);
        Looks.sizesAre(x, 2, 2);
    }

    private static void pruneWithAChangeAccepted() {
        Checks.part("promise 13, '-1, changing nothing, if a change was accepted'");
        for (int volume = 0; volume <= 1; volume++) {
            HistoricalTreeStore x = new HistoricalTreeStore();
            Runs.commitWrites(x, 1, 1, 3);
            Runs.syncAll(x);
            Checks.due("use", x.use(volume), true);
            Checks.due("write", x.write(2, 2, 2), true);
            Checks.due("after a write", x.prune(), -1);
            Checks.due("nothing is gone", x.read(1, 1, 1), 1);
            Checks.due("nothing is gone", x.read(1, 1, 2), 2);
            Checks.due("remove", x.remove(2, 2), true);
            Checks.due("after write and remove", x.prune(), -1);
            Checks.due("the changes stay", x.abort(), 2);
            Checks.due("remove", x.remove(1, 1), true);
            Checks.due("after a remove", x.prune(), -1);
            Checks.due("size", x.size(), 3);
            Checks.due("commit", x.commit(), 4);
            Checks.due("after commit", x.prune(), 2);
        }
    }

    private static void pruneWithNoChangeAccepted() {
        Checks.part("promise 13, refused and taken back changes are none");
        HistoricalTreeStore x = new HistoricalTreeStore();
        Runs.commitWrites(x, 1, 1, 4);
        Runs.syncAll(x);
        Checks.due("snapshot", x.snapshot(2), true);
        Checks.due("snapshot", x.snapshot(3), true);
        Checks.due("a refused remove", x.remove(9, 9), false);
        Checks.due("prune", x.prune(), 1);
        Checks.due("write", x.write(1, 1, 5), true);
        Checks.due("abort", x.abort(), 1);
        Checks.due("snapshot off", x.snapshot(2), true);
        Checks.due("prune after abort", x.prune(), 1);
        Checks.due("write", x.write(1, 1, 5), true);
        Checks.due("crash", x.crash(), 1);
        Checks.due("snapshot off", x.snapshot(3), true);
        Checks.due("prune after crash", x.prune(), 1);
        Checks.due("size", x.size(), 1);
    }

    private static void pruneChangesNoHistoryAtSnapshots() {
        Checks.part("promise 13, what a snapshot sees stays as it was");
        HistoricalTreeStore x = new HistoricalTreeStore();
        Runs.fill(x, 0, 10);
        for (int obj = 0; obj < 10; obj += 2) {
            Checks.due("write", x.write(obj, 0, 100 + obj), true);
        }
        Checks.due("commit", x.commit(), 2);
        for (int obj = 0; obj < 10; obj += 3) {
            Checks.due("remove", x.remove(obj, 0), true);
        }
        Checks.due("commit", x.commit(), 3);
        Runs.syncAll(x);
        Checks.due("snapshot", x.snapshot(2), true);
        Checks.due("prune", x.prune(), 5);
        for (int obj = 0; obj < 10; obj++) {
            int then = obj % 2 == 0 ? 100 + obj : obj + 1;
            Checks.due("at 2, " + obj, x.read(obj, 0, 2), then);
            Checks.due("at 3, " + obj, x.read(obj, 0, 3), obj % 3 == 0 ? 0 : then);
        }
    }
}
