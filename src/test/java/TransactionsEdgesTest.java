/** The edges that promises 4 to 6, commit, abort and crash, name; one test to a sentence. */
public final class TransactionsEdgesTest {
    public static void main(String[] args) {
        commitTakesAwayWhatWasNeverSeen();
        commitOfNothingButTheNeverSeen();
        commitTakesManyAway();
        commitAfterAbortedOnes();
        commitGrowsByOne();
        commitWithNoChange();
        commitWithOnlyRefusedChanges();
        commitClosesTheTransaction();
        commitLeavesTheMirror();
        abortTellsHowMany();
        abortTakesBackAWrite();
        abortTakesBackARemove();
        abortTakesBackWriteAndRemove();
        abortTakesBackForty();
        abortLeavesTheRest();
        crashTellsHowMany();
        crashTakesBack();
        crashGivesUpTheSync();
        crashWithNoSync();
        crashForgetsTheGoal();
        crashSendsQuestionsToTheMaster();
        crashLeavesTheRest();
        Checks.finish();
    }

    private static void commitTakesAwayWhatWasNeverSeen() {
        Checks.part("promise 4, 'born done + 1 and died done + 1 are taken away'");
        HistoricalTreeStore x = new HistoricalTreeStore();
        Runs.commitWrite(x, 1, 1, 10);
        Runs.commitWrite(x, 2, 2, 20);
        Runs.commitRemove(x, 2, 2);
        Checks.due("born before, died now: remove", x.remove(1, 1), true);
        Checks.due("born now, not died: write", x.write(3, 3, 30), true);
        Checks.due("born now, died now: write", x.write(4, 4, 40), true);
        Checks.due("born now, died now: remove", x.remove(4, 4), true);
        Checks.due("size before", x.size(), 4);
        Checks.due("commit", x.commit(), 4);
        Checks.due("size after", x.size(), 3);
        Looks.lifeIs(x, 1, 1, 10, 1, 4);
        Looks.lifeIs(x, 2, 2, 20, 2, 3);
        Looks.lifeIs(x, 3, 3, 30, 4, 0);
        Checks.due("never seen", x.has(4, 4, 4), false);
    }

    private static void commitOfNothingButTheNeverSeen() {
        Checks.part("promise 4, changes that leave nothing");
        HistoricalTreeStore x = new HistoricalTreeStore();
        Checks.due("write", x.write(1, 1, 10), true);
        Checks.due("remove", x.remove(1, 1), true);
        Checks.due("size", x.size(), 1);
        Checks.due("commit", x.commit(), 1);
        Checks.due("size", x.size(), 0);
        Checks.due("done", x.done(), 1);
        Checks.due("abort finds nothing", x.abort(), 0);
        Checks.due("size", x.size(), 0);
    }

    private static void commitTakesManyAway() {
        Checks.part("promise 4, twenty taken away at once");
        HistoricalTreeStore x = new HistoricalTreeStore();
        Runs.fill(x, 100, 110);
        for (int obj = 0; obj < 20; obj++) {
            Checks.due("write", x.write(obj, 0, obj), true);
            Checks.due("remove", x.remove(obj, 0), true);
        }
        Checks.due("size before", x.size(), 30);
        Checks.due("commit", x.commit(), 2);
        Checks.due("size after", x.size(), 10);
        for (int obj = 100; obj < 110; obj++) {
            Checks.due("stays", x.read(obj, 0, 2), obj + 1);
        }
    }

    private static void commitAfterAbortedOnes() {
        Checks.part("promise 4, what abort took back is not taken away once more");
        HistoricalTreeStore x = new HistoricalTreeStore();
        Checks.due("write", x.write(1, 1, 10), true);
        Checks.due("write", x.write(2, 2, 20), true);
        Checks.due("remove", x.remove(2, 2), true);
        Checks.due("abort", x.abort(), 3);
        Checks.due("write", x.write(1, 1, 11), true);
        Checks.due("commit", x.commit(), 1);
        Checks.due("size", x.size(), 1);
        Looks.lifeIs(x, 1, 1, 11, 1, 0);
        Checks.due("write", x.write(2, 2, 20), true);
        Checks.due("write", x.write(3, 3, 30), true);
        Checks.due("remove", x.remove(3, 3), true);
        Checks.due("commit", x.commit(), 2);
        Checks.due("abort of none", x.abort(), 0);
        Checks.due("size", x.size(), 2);
    }

    private static void commitGrowsByOne() {
        Checks.part("promise 4, 'then done grows by 1. Answers the new done'");
        HistoricalTreeStore x = new HistoricalTreeStore();
        Checks.due("one change", x.write(1, 1, 10), true);
        Checks.due("commit", x.commit(), 1);
        Checks.due("done", x.done(), 1);
        Runs.rewrite(x, 1, 1, 40);
        Checks.due("forty changes, one transaction", x.commit(), 2);
        Checks.due("done", x.done(), 2);
        Checks.due("a remove alone", x.remove(1, 1), true);
        Checks.due("commit", x.commit(), 3);
        Checks.due("done", x.done(), 3);
    }

    private static void commitWithNoChange() {
        Checks.part("promise 4, 'if no change was accepted in it, done stays'");
        HistoricalTreeStore x = new HistoricalTreeStore();
        Checks.due("a new object", x.commit(), 0);
        Checks.due("done", x.done(), 0);
        Checks.due("write", x.write(1, 1, 10), true);
        Checks.due("one change", x.commit(), 1);
        Checks.due("none", x.commit(), 1);
        Checks.due("none again", x.commit(), 1);
        Checks.due("done", x.done(), 1);
        Checks.due("write", x.write(1, 1, 11), true);
        Checks.due("abort", x.abort(), 1);
        Checks.due("taken back by abort", x.commit(), 1);
        Checks.due("write", x.write(1, 1, 11), true);
        Checks.due("crash", x.crash(), 1);
        Checks.due("taken back by crash", x.commit(), 1);
        Looks.lifeIs(x, 1, 1, 10, 1, 0);
        Checks.due("sync", x.sync(1), 1);
        Checks.due("snapshot", x.snapshot(1), true);
        Checks.due("a sync and a snapshot are no changes", x.commit(), 1);
        Checks.due("prune", x.prune(), 0);
        Checks.due("nor is a prune", x.commit(), 1);
        Checks.due("write", x.write(1, 1, 12), true);
        Checks.due("one change", x.commit(), 2);
    }

    private static void commitWithOnlyRefusedChanges() {
        Checks.part("promise 4, refused changes are none");
        HistoricalTreeStore x = new HistoricalTreeStore();
        Checks.due("a refused remove", x.remove(1, 1), false);
        Checks.due("commit", x.commit(), 0);
        Runs.fill(x, 0, 100);
        Checks.due("a refused write", x.write(500, 0, 1), false);
        Checks.due("a refused write", x.write(5, 0, 1), false);
        Checks.due("commit", x.commit(), 3);
        Checks.due("done", x.done(), 3);
        Looks.lifeIs(x, 5, 0, 6, 1, 0);
    }

    private static void commitClosesTheTransaction() {
        Checks.part("promise 4, 'closes the transaction'");
        HistoricalTreeStore x = new HistoricalTreeStore();
        Runs.rewrite(x, 1, 1, 40);
        Checks.due("commit", x.commit(), 1);
        Checks.due("nothing to take back", x.abort(), 0);
        Checks.due("nothing taken back", x.read(1, 1, 1), 40);
        Checks.due("prune is allowed again", x.prune(), 0);
        Runs.rewrite(x, 1, 1, 40);
        Checks.due("the next transaction's changes", x.abort(), 40);
        Looks.lifeIs(x, 1, 1, 40, 1, 0);
    }

    private static void commitLeavesTheMirror() {
        Checks.part("promise 4, a commit during a sync");
        HistoricalTreeStore x = new HistoricalTreeStore();
        Runs.fill(x, 0, 3);
        Checks.due("sync", x.sync(2), 2);
        Checks.due("use", x.use(1), true);
        Checks.due("write", x.write(9, 9, 9), true);
        Checks.due("commit", x.commit(), 2);
        Checks.due("still under way", x.synced(), 1000000);
        Checks.due("still the mirror, as it was", x.size(), 2);
        Checks.due("goes on where it was", x.sync(50), 1);
        Checks.due("up to its goal", x.synced(), 1);
    }

    private static void abortTellsHowMany() {
        Checks.part("promise 5, 'answers how many had been accepted'");
        HistoricalTreeStore x = new HistoricalTreeStore();
        Checks.due("none", x.abort(), 0);
        Checks.due("write", x.write(1, 1, 1), true);
        Checks.due("one", x.abort(), 1);
        Checks.due("none any more", x.abort(), 0);
        Runs.rewrite(x, 1, 1, 39);
        Checks.due("39", x.abort(), 39);
        Runs.rewrite(x, 1, 1, 40);
        Checks.due("40", x.abort(), 40);
        Runs.rewrite(x, 1, 1, 40);
        Checks.due("change 41", x.write(1, 1, 41), false);
        Checks.due("change 41", x.remove(1, 1), false);
        Checks.due("the refused ones do not count", x.abort(), 40);
        Checks.due("a refused remove", x.remove(1, 1), false);
        Checks.due("none", x.abort(), 0);
        Checks.due("done", x.done(), 0);
        Checks.due("size", x.size(), 0);
    }

    private static void abortTakesBackAWrite() {
        Checks.part("promise 5, a write taken back");
        HistoricalTreeStore x = new HistoricalTreeStore();
        Runs.commitWrite(x, 1, 1, 10);
        Runs.commitNothing(x, 1);
        Checks.due("over an older one", x.write(1, 1, 30), true);
        Checks.due("new", x.write(2, 2, 31), true);
        Checks.due("abort", x.abort(), 2);
        Checks.due("size", x.size(), 1);
        Looks.lifeIs(x, 1, 1, 10, 1, 0);
        Checks.due("the new one is gone", x.has(2, 2, 3), false);
    }

    private static void abortTakesBackARemove() {
        Checks.part("promise 5, a remove taken back");
        HistoricalTreeStore x = new HistoricalTreeStore();
        Runs.commitWrite(x, 1, 1, 10);
        Runs.commitWrite(x, 2, 2, 20);
        Runs.commitRemove(x, 2, 2);
        Checks.due("remove", x.remove(1, 1), true);
        Checks.due("abort", x.abort(), 1);
        Looks.lifeIs(x, 1, 1, 10, 1, 0);
        Looks.lifeIs(x, 2, 2, 20, 2, 3);
        Checks.due("size", x.size(), 2);
    }

    private static void abortTakesBackWriteAndRemove() {
        Checks.part("promise 5, writes and removes of one key taken back");
        HistoricalTreeStore x = new HistoricalTreeStore();
        Runs.commitWrite(x, 1, 1, 10);
        Checks.due("remove", x.remove(1, 1), true);
        Checks.due("write", x.write(1, 1, 20), true);
        Checks.due("remove", x.remove(1, 1), true);
        Checks.due("write", x.write(1, 1, 21), true);
        Checks.due("write", x.write(1, 1, 22), true);
        Checks.due("abort", x.abort(), 5);
        Looks.lifeIs(x, 1, 1, 10, 1, 0);
        Checks.due("size", x.size(), 1);
        Checks.due("write", x.write(1, 1, 20), true);
        Checks.due("remove", x.remove(1, 1), true);
        Checks.due("abort of a record that had ended", x.abort(), 2);
        Looks.lifeIs(x, 1, 1, 10, 1, 0);
        Checks.due("size", x.size(), 1);
        Checks.due("commit", x.commit(), 1);
    }

    private static void abortTakesBackForty() {
        Checks.part("promise 5, 'takes all changes back'");
        HistoricalTreeStore x = new HistoricalTreeStore();
        Runs.fill(x, 0, 20);
        for (int obj = 0; obj < 20; obj++) {
            Checks.due("write over", x.write(obj, 0, 500), true);
            Checks.due("write new", x.write(obj, 1, 600), true);
        }
        Checks.due("size", x.size(), 60);
        Checks.due("abort", x.abort(), 40);
        Checks.due("size", x.size(), 20);
        for (int obj = 0; obj < 20; obj++) {
            Checks.due("old value", x.read(obj, 0, 2), obj + 1);
            Checks.due("new one gone", x.has(obj, 1, 2), false);
        }
        Checks.due("commit", x.commit(), 1);
    }

    private static void abortLeavesTheRest() {
        Checks.part("promise 5, nothing else is changed");
        HistoricalTreeStore x = new HistoricalTreeStore();
        Runs.commitWrites(x, 1, 1, 3);
        Checks.due("snapshot", x.snapshot(1), true);
        Checks.due("next", x.next(0, 0, 2), true);
        Checks.due("sync", x.sync(1), 1);
        Checks.due("use", x.use(1), true);
        Checks.due("write", x.write(1, 1, 99), true);
        Checks.due("abort", x.abort(), 1);
        Checks.due("done", x.done(), 3);
        Checks.due("still under way", x.synced(), 1000000);
        Checks.due("still the mirror", x.size(), 1);
        Looks.foundIs(x, 1, 1, 2, 2);
        Checks.due("goes on where it was", x.sync(1), 1);
        Checks.due("and on", x.sync(1), 1);
        Checks.due("over", x.synced(), 3);
        Checks.due("the snapshot keeps its record", x.prune(), 1);
        Checks.due("kept", x.read(1, 1, 1), 1);
    }

    private static void crashTellsHowMany() {
        Checks.part("promise 6, 'as abort': how many");
        HistoricalTreeStore x = new HistoricalTreeStore();
        Checks.due("none", x.crash(), 0);
        Checks.due("write", x.write(1, 1, 1), true);
        Checks.due("one", x.crash(), 1);
        Checks.due("none any more", x.crash(), 0);
        Checks.due("nor for abort", x.abort(), 0);
        Runs.rewrite(x, 1, 1, 40);
        Checks.due("change 41", x.write(1, 1, 41), false);
        Checks.due("40", x.crash(), 40);
        Checks.due("size", x.size(), 0);
        Checks.due("no change was accepted", x.commit(), 0);
    }

    private static void crashTakesBack() {
        Checks.part("promise 6, 'as abort': changes taken back");
        HistoricalTreeStore x = new HistoricalTreeStore();
        Runs.commitWrite(x, 1, 1, 10);
        Runs.commitWrite(x, 2, 2, 20);
        Checks.due("write", x.write(1, 1, 30), true);
        Checks.due("remove", x.remove(2, 2), true);
        Checks.due("write", x.write(3, 3, 31), true);
        Checks.due("write", x.write(4, 4, 32), true);
        Checks.due("remove", x.remove(4, 4), true);
        Checks.due("crash", x.crash(), 5);
        Checks.due("size", x.size(), 2);
        Looks.lifeIs(x, 1, 1, 10, 1, 0);
        Looks.lifeIs(x, 2, 2, 20, 2, 0);
        Checks.due("new one gone", x.has(3, 3, 3), false);
    }

    private static void crashGivesUpTheSync() {
        Checks.part("promise 6, 'a synchronisation under way is given up'");
        HistoricalTreeStore x = new HistoricalTreeStore();
        Runs.fill(x, 0, 2);
        Runs.syncAll(x);
        Runs.fill(x, 10, 13);
        Checks.due("all but one", x.sync(2), 2);
        Checks.due("under way", x.synced(), 1000001);
        Checks.due("crash", x.crash(), 0);
        Checks.due("not under way", x.synced(), 1);
        Checks.due("use", x.use(1), true);
        Checks.due("what was sent stays", x.size(), 4);
        Checks.due("the next begins before all records", x.sync(1), 1);
        Checks.due("the first was there", x.size(), 4);
        Checks.due("the second", x.sync(1), 1);
        Checks.due("was there", x.size(), 4);
        Checks.due("the third", x.sync(1), 1);
        Checks.due("was not", x.size(), 5);
        Checks.due("over", x.synced(), 2);
    }

    private static void crashWithNoSync() {
        Checks.part("promise 6, no synchronisation under way");
        HistoricalTreeStore x = new HistoricalTreeStore();
        Checks.due("crash", x.crash(), 0);
        Checks.due("synced", x.synced(), 0);
        Runs.fill(x, 0, 3);
        Checks.due("crash", x.crash(), 0);
        Checks.due("synced", x.synced(), 0);
        Checks.due("sync to its end", x.sync(3), 3);
        Checks.due("synced", x.synced(), 1);
        Checks.due("crash", x.crash(), 0);
        Checks.due("one that is over is not given up", x.synced(), 1);
        Checks.due("m is done", x.sync(3), -1);
        Looks.sizesAre(x, 3, 3);
    }

    private static void crashForgetsTheGoal() {
        Checks.part("promise 6, the next synchronisation has its own goal");
        HistoricalTreeStore x = new HistoricalTreeStore();
        Runs.fill(x, 0, 3);
        Checks.due("sync", x.sync(1), 1);
        Runs.commitWrite(x, -5, 0, 50);
        Checks.due("crash", x.crash(), 0);
        Checks.due("sync", x.sync(1), 1);
        Checks.due("use", x.use(1), true);
        Checks.due("the record of the later transaction comes first", x.read(-5, 0, 2), 50);
        Checks.due("the rest", x.sync(50), 3);
        Checks.due("the later goal", x.synced(), 2);
        Checks.due("m is done", x.sync(50), -1);
    }

    private static void crashSendsQuestionsToTheMaster() {
        Checks.part("promise 6, 'questions go to volume 0'");
        HistoricalTreeStore x = new HistoricalTreeStore();
        Runs.commitWrites(x, 1, 1, 2);
        Checks.due("use 1", x.use(1), true);
        Checks.due("size", x.size(), 0);
        Checks.due("crash", x.crash(), 0);
        Checks.due("size", x.size(), 2);
        Checks.due("has", x.has(1, 1, 1), true);
        Checks.due("read", x.read(1, 1, 2), 2);
        Checks.due("next", x.next(1, 0, 1), true);
        Checks.due("use 0", x.use(0), true);
        Checks.due("crash", x.crash(), 0);
        Checks.due("size", x.size(), 2);
        Runs.syncAll(x);
        Checks.due("use 1", x.use(1), true);
        Checks.due("crash", x.crash(), 0);
        Checks.due("prune of the master", x.prune(), 1);
        Looks.sizesAre(x, 1, 2);
    }

    private static void crashLeavesTheRest() {
        Checks.part("promise 6, nothing else is changed");
        HistoricalTreeStore x = new HistoricalTreeStore();
        Runs.commitWrites(x, 1, 1, 3);
        Checks.due("next", x.next(0, 0, 2), true);
        Checks.due("snapshot", x.snapshot(1), true);
        Checks.due("crash", x.crash(), 0);
        Checks.due("done", x.done(), 3);
        Looks.foundIs(x, 1, 1, 2, 2);
        Runs.syncAll(x);
        Checks.due("the snapshot keeps its record", x.prune(), 1);
        Checks.due("kept", x.read(1, 1, 1), 1);
        Checks.due("three others fit", x.snapshot(0), true);
        Checks.due("three others fit", x.snapshot(2), true);
        Checks.due("three others fit", x.snapshot(3), true);
        Checks.due("crash", x.crash(), 0);
        Runs.commitWrites(x, 1, 1, 1);
        Checks.due("a fourth does not", x.snapshot(4), false);
    }
}
