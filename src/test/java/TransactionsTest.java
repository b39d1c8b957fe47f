/** Promises 1 to 6: a new object, write, remove, commit, abort, crash. */
public final class TransactionsTest {
    public static void main(String[] args) {
        newObject();
        newObjectHasNoSnapshots();
        writeAndRewrite();
        writeLeavesTheOlderRecord();
        writeAfterRemoveInOneTransaction();
        writeTakesAnyInts();
        writeRefusesTheFortyFirstChange();
        writeRefusesTheHundredAndFirstRecord();
        removeEndsTheVisibleRecord();
        removeRefuses();
        commitTakesAwayWhatWasNeverSeen();
        commitWithoutChanges();
        abortTakesAllBack();
        abortFreesTheChanges();
        crashActsAsAbort();
        crashGivesUpTheSync();
        changesGoToTheMasterAlone();
        Checks.finish();
    }

    private static void newObject() {
        Checks.part("promise 1, new object");
        HistoricalTreeStore x = new HistoricalTreeStore();
        Checks.due("done", x.done(), 0);
        Checks.due("size of the master", x.size(), 0);
        Checks.due("synced", x.synced(), 0);
        Checks.due("sync", x.sync(1), -1);
        Checks.due("has", x.has(0, 0, 0), false);
        Checks.due("read", x.read(0, 0, 0), 0);
        Checks.due("next", x.next(Integer.MIN_VALUE, Integer.MIN_VALUE, 0), false);
        for (int which = 0; which < 4; which++) {
            Checks.due("found " + which, x.found(which), 0);
        }
        Checks.due("commit", x.commit(), 0);
        Checks.due("abort", x.abort(), 0);
        Checks.due("prune", x.prune(), 0);
        Checks.due("write", x.write(1, 1, 1), true);
        Checks.due("questions go to the master", x.size(), 1);
        Checks.due("use", x.use(1), true);
        Checks.due("size of the mirror", x.size(), 0);
    }

    private static void newObjectHasNoSnapshots() {
        Checks.part("promise 1, no snapshots");
        HistoricalTreeStore x = new HistoricalTreeStore();
        Runs.commitWrites(x, 1, 1, 4);
        for (int t = 0; t < 4; t++) {
            Checks.due("snapshot " + t, x.snapshot(t), true);
        }
        Checks.due("fifth snapshot", x.snapshot(4), false);
    }

    private static void writeAndRewrite() {
        Checks.part("promise 2, rewrite in one transaction");
        HistoricalTreeStore x = new HistoricalTreeStore();
        Checks.due("write", x.write(1, 2, 10), true);
        Checks.due("not before the open transaction", x.has(1, 2, 0), false);
        Checks.due("read in the open transaction", x.read(1, 2, 1), 10);
        Checks.due("write again", x.write(1, 2, 11), true);
        Checks.due("read the new value", x.read(1, 2, 1), 11);
        Checks.due("size", x.size(), 1);
        Checks.due("another key", x.write(1, 3, 12), true);
        Checks.due("another obj", x.write(2, 2, 13), true);
        Checks.due("size", x.size(), 3);
        Checks.due("first still there", x.read(1, 2, 1), 11);
        Checks.due("accepted", x.abort(), 4);
    }

    private static void writeLeavesTheOlderRecord() {
        Checks.part("promise 2, older record");
        HistoricalTreeStore x = new HistoricalTreeStore();
        Runs.commitWrites(x, 5, 6, 1);
        Checks.due("write", x.write(5, 6, 200), true);
        Checks.due("write again", x.write(5, 6, 201), true);
        Checks.due("size", x.size(), 2);
        Checks.due("old at 1", x.read(5, 6, 1), 1);
        Checks.due("new at 2", x.read(5, 6, 2), 201);
        Checks.due("new later", x.read(5, 6, Integer.MAX_VALUE), 201);
        Checks.due("nothing at 0", x.has(5, 6, 0), false);
        Checks.due("commit", x.commit(), 2);
        Checks.due("old at 1 after commit", x.read(5, 6, 1), 1);
        Checks.due("new at 2 after commit", x.read(5, 6, 2), 201);
    }

    private static void writeAfterRemoveInOneTransaction() {
        Checks.part("promise 2, write after remove");
        HistoricalTreeStore x = new HistoricalTreeStore();
        Runs.commitWrites(x, 5, 6, 1);
        Checks.due("write", x.write(5, 6, 7), true);
        Checks.due("remove", x.remove(5, 6), true);
        Checks.due("gone", x.has(5, 6, 2), false);
        Checks.due("size with the ended record", x.size(), 2);
        Checks.due("write again", x.write(5, 6, 8), true);
        Checks.due("size", x.size(), 2);
        Checks.due("read", x.read(5, 6, 2), 8);
        Checks.due("commit", x.commit(), 2);
        Checks.due("size after commit", x.size(), 2);
        Checks.due("remove old", x.remove(5, 6), true);
        Checks.due("write after removing the older", x.write(5, 6, 9), true);
        Checks.due("commit", x.commit(), 3);
        Checks.due("size", x.size(), 3);
        Checks.due("read 1", x.read(5, 6, 1), 1);
        Checks.due("read 2", x.read(5, 6, 2), 8);
        Checks.due("read 3", x.read(5, 6, 3), 9);
    }

    private static void writeTakesAnyInts() {
        Checks.part("promise 2, any ints");
        HistoricalTreeStore x = new HistoricalTreeStore();
        int low = Integer.MIN_VALUE;
        int high = Integer.MAX_VALUE;
        Checks.due("write low", x.write(low, high, low), true);
        Checks.due("write high", x.write(high, low, high), true);
        Checks.due("write zero", x.write(0, 0, 0), true);
        Checks.due("read low", x.read(low, high, 1), low);
        Checks.due("read high", x.read(high, low, 1), high);
        Checks.due("has zero", x.has(0, 0, 1), true);
        Checks.due("size", x.size(), 3);
    }

    private static void writeRefusesTheFortyFirstChange() {
        Checks.part("promises 2 and 3, forty changes");
        HistoricalTreeStore x = new HistoricalTreeStore();
        for (int i = 0; i < 39; i++) {
            Checks.due("write " + i, x.write(1, 1, i), true);
        }
        Checks.due("the fortieth", x.remove(1, 1), true);
        Checks.due("the next write", x.write(1, 1, 99), false);
        Checks.due("the next new write", x.write(2, 2, 99), false);
        Checks.due("nothing changed", x.has(1, 1, 1), false);
        Checks.due("nothing added", x.size(), 1);
        Checks.due("commit", x.commit(), 1);
        Checks.due("a new transaction has room", x.write(1, 1, 99), true);
        for (int i = 0; i < 39; i++) {
            Checks.due("write " + i, x.write(1, 1, i), true);
        }
        Checks.due("remove as the forty-first", x.remove(1, 1), false);
        Checks.due("still there", x.read(1, 1, 2), 38);
        Checks.due("accepted", x.abort(), 40);
    }

    private static void writeRefusesTheHundredAndFirstRecord() {
        Checks.part("promise 2, a hundred records");
        HistoricalTreeStore x = new HistoricalTreeStore();
        Runs.fill(x, 0, 99);
        Checks.due("the hundredth", x.write(1000, 0, 5), true);
        Checks.due("a new key", x.write(1001, 0, 5), false);
        Checks.due("an old key", x.write(0, 0, 5), false);
        Checks.due("the old record lives", x.has(0, 0, x.done() + 1), true);
        Checks.due("own record still takes a value", x.write(1000, 0, 6), true);
        Checks.due("own record goes", x.remove(1000, 0), true);
        Checks.due("own record comes back", x.write(1000, 0, 7), true);
        Checks.due("read", x.read(1000, 0, x.done() + 1), 7);
        Checks.due("removing an older one", x.remove(0, 0), true);
        Checks.due("a removed one keeps its room", x.write(1001, 0, 5), false);
        Checks.due("size", x.size(), 100);
        Checks.due("refused writes are not counted", x.abort(), 5);
        Checks.due("size after abort", x.size(), 99);
    }

    private static void removeEndsTheVisibleRecord() {
        Checks.part("promise 3, remove");
        HistoricalTreeStore x = new HistoricalTreeStore();
        Runs.commitWrites(x, 1, 1, 2);
        Checks.due("remove", x.remove(1, 1), true);
        Checks.due("gone at 3", x.has(1, 1, 3), false);
        Checks.due("there at 2", x.read(1, 1, 2), 2);
        Checks.due("there at 1", x.read(1, 1, 1), 1);
        Checks.due("size", x.size(), 2);
        Checks.due("commit", x.commit(), 3);
        Checks.due("gone at 3", x.has(1, 1, 3), false);
        Checks.due("gone later", x.has(1, 1, 4), false);
        Checks.due("there at 2", x.read(1, 1, 2), 2);
        Checks.due("size after commit", x.size(), 2);
    }

    private static void removeRefuses() {
        Checks.part("promise 3, nothing to remove");
        HistoricalTreeStore x = new HistoricalTreeStore();
        Checks.due("never written", x.remove(1, 1), false);
        Checks.due("no change counted", x.abort(), 0);
        Runs.commitWrites(x, 1, 1, 1);
        Checks.due("another key", x.remove(1, 2), false);
        Checks.due("another obj", x.remove(2, 1), false);
        Checks.due("remove", x.remove(1, 1), true);
        Checks.due("remove twice", x.remove(1, 1), false);
        Checks.due("one change counted", x.abort(), 1);
        Checks.due("remove again", x.remove(1, 1), true);
        Checks.due("commit", x.commit(), 2);
        Checks.due("after commit", x.remove(1, 1), false);
        Checks.due("no change was accepted", x.commit(), 2);
    }

    private static void commitTakesAwayWhatWasNeverSeen() {
        Checks.part("promise 4, born and died in one transaction");
        HistoricalTreeStore x = new HistoricalTreeStore();
        Runs.commitWrites(x, 1, 1, 1);
        Checks.due("write old", x.write(1, 1, 5), true);
        Checks.due("write", x.write(2, 2, 5), true);
        Checks.due("write kept", x.write(3, 3, 5), true);
        Checks.due("write", x.write(4, 4, 5), true);
        Checks.due("remove old", x.remove(1, 1), true);
        Checks.due("remove", x.remove(2, 2), true);
        Checks.due("remove", x.remove(4, 4), true);
        Checks.due("size before", x.size(), 5);
        Checks.due("done before", x.done(), 1);
        Checks.due("commit", x.commit(), 2);
        Checks.due("done after", x.done(), 2);
        Checks.due("size after", x.size(), 2);
        Checks.due("the older stays", x.read(1, 1, 1), 1);
        Checks.due("and is ended", x.has(1, 1, 2), false);
        Checks.due("the kept one", x.read(3, 3, 2), 5);
    }

    private static void commitWithoutChanges() {
        Checks.part("promise 4, no change");
        HistoricalTreeStore x = new HistoricalTreeStore();
        Checks.due("commit", x.commit(), 0);
        Runs.commitWrites(x, 1, 1, 1);
        Checks.due("commit", x.commit(), 1);
        Checks.due("write", x.write(1, 1, 1), true);
        Checks.due("abort", x.abort(), 1);
        Checks.due("commit after abort", x.commit(), 1);
        Checks.due("write", x.write(2, 2, 1), true);
        Checks.due("remove", x.remove(2, 2), true);
        Checks.due("changes that leave nothing still count", x.commit(), 2);
        Checks.due("done", x.done(), 2);
    }

    private static void abortTakesAllBack() {
        Checks.part("promise 5, abort");
        HistoricalTreeStore x = new HistoricalTreeStore();
        Runs.commitWrites(x, 1, 1, 2);
        x.write(2, 2, 7);
        Checks.due("commit", x.commit(), 3);
        Checks.due("rewrite", x.write(1, 1, 50), true);
        Checks.due("rewrite again", x.write(1, 1, 51), true);
        Checks.due("remove", x.remove(2, 2), true);
        Checks.due("new", x.write(3, 3, 52), true);
        Checks.due("new and gone", x.write(4, 4, 53), true);
        Checks.due("new and gone", x.remove(4, 4), true);
        Checks.due("abort", x.abort(), 6);
        Checks.due("abort again", x.abort(), 0);
        Checks.due("done", x.done(), 3);
        Checks.due("size", x.size(), 3);
        Checks.due("old value", x.read(1, 1, 4), 2);
        Checks.due("older value", x.read(1, 1, 1), 1);
        Checks.due("removed one is back", x.read(2, 2, 4), 7);
        Checks.due("new one is gone", x.has(3, 3, 4), false);
        Checks.due("an earlier end stays", x.read(1, 1, 2), 2);
    }

    private static void abortFreesTheChanges() {
        Checks.part("promise 5, changes free again");
        HistoricalTreeStore x = new HistoricalTreeStore();
        for (int round = 0; round < 3; round++) {
            for (int i = 0; i < 40; i++) {
                Checks.due("write", x.write(i, 0, 1), true);
            }
            Checks.due("write above 40", x.write(50, 0, 1), false);
            Checks.due("abort", x.abort(), 40);
            Checks.due("size", x.size(), 0);
        }
    }

    private static void crashActsAsAbort() {
        Checks.part("promise 6, crash as abort");
        HistoricalTreeStore x = new HistoricalTreeStore();
        Runs.commitWrites(x, 1, 1, 1);
        Checks.due("snapshot", x.snapshot(1), true);
        Checks.due("next", x.next(0, 0, 1), true);
        Checks.due("rewrite", x.write(1, 1, 50), true);
        Checks.due("new", x.write(2, 2, 51), true);
        Checks.due("use", x.use(1), true);
        Checks.due("crash", x.crash(), 2);
        Checks.due("questions go to the master", x.size(), 1);
        Checks.due("old value", x.read(1, 1, 2), 1);
        Checks.due("done", x.done(), 1);
        Checks.due("found stays", x.found(0), 1);
        Checks.due("crash again", x.crash(), 0);
        Checks.due("remove", x.remove(1, 1), true);
        Checks.due("commit", x.commit(), 2);
        Checks.due("sync", x.sync(9), 1);
        Checks.due("the snapshot is still there", x.prune(), 0);
    }

    private static void crashGivesUpTheSync() {
        Checks.part("promise 6, sync given up");
        HistoricalTreeStore x = new HistoricalTreeStore();
        Runs.fill(x, 0, 10);
        Checks.due("sync", x.sync(4), 4);
        Checks.due("synced", x.synced(), 1000000);
        Checks.due("crash", x.crash(), 0);
        Checks.due("synced after crash", x.synced(), 0);
        Checks.due("use", x.use(1), true);
        Checks.due("what was sent stays in the mirror", x.size(), 4);
        Checks.due("sync begins before all records", x.sync(50), 10);
        Checks.due("size", x.size(), 10);
        Checks.due("synced", x.synced(), 1);
        Checks.due("a crash after it", x.crash(), 0);
        Checks.due("keeps what is synchronised", x.synced(), 1);
        Checks.due("abort leaves questions where they go", x.use(1), true);
        Checks.due("write", x.write(77, 7, 7), true);
        Checks.due("abort", x.abort(), 1);
        Checks.due("size of the mirror", x.size(), 10);
        Checks.due("write", x.write(77, 7, 7), true);
        Checks.due("commit", x.commit(), 2);
        Checks.due("size of the mirror", x.size(), 10);
        Checks.due("write another", x.write(78, 7, 7), true);
        Checks.due("commit", x.commit(), 3);
        Checks.due("sync under way", x.sync(1), 1);
        Checks.due("abort during it", x.abort(), 0);
        Checks.due("does not give it up", x.synced(), 1000001);
    }

    private static void changesGoToTheMasterAlone() {
        Checks.part("terms, changes go to the master");
        HistoricalTreeStore x = new HistoricalTreeStore();
        Checks.due("use", x.use(1), true);
        Checks.due("write", x.write(1, 1, 5), true);
        Checks.due("not in the mirror", x.has(1, 1, 1), false);
        Checks.due("size of the mirror", x.size(), 0);
        Checks.due("commit", x.commit(), 1);
        Checks.due("remove while the mirror has none", x.remove(1, 1), true);
        Checks.due("abort", x.abort(), 1);
        Checks.due("use", x.use(0), true);
        Checks.due("in the master", x.read(1, 1, 1), 5);
    }
}
