/** Promises 14 and 15: sync and synced. */
public final class MirrorTest {
    public static void main(String[] args) {
        syncRefuses();
        syncWithNothingToSend();
        syncEndsWithTheLastRecord();
        syncSendsInOrder();
        syncSendsEndsOfOldRecords();
        syncSendsOnlyWhatChanged();
        syncKeepsItsGoal();
        syncLeavesLaterEndsOut();
        syncLeavesOpenChangesOut();
        syncStopsAtAFullMirror();
        fullMirrorStillTakesEnds();
        syncAfterAPrunedMirror();
        Checks.finish();
    }

    private static void syncRefuses() {
        Checks.part("promise 14, refused");
        HistoricalTreeStore x = new HistoricalTreeStore();
        Checks.due("nothing done", x.sync(1), -1);
        Runs.fill(x, 0, 60);
        for (int n : new int[] {0, 51, -1, Integer.MIN_VALUE, Integer.MAX_VALUE}) {
            Checks.due("sync " + n, x.sync(n), -1);
            Checks.due("none begins", x.synced(), 0);
        }
        Checks.due("the least", x.sync(1), 1);
        Checks.due("sync 0 under way", x.sync(0), -1);
        Checks.due("sync 51 under way", x.sync(51), -1);
        Checks.due("still under way", x.synced(), 1000000);
        Checks.due("the most", x.sync(50), 50);
        Checks.due("the rest", x.sync(50), 9);
        Checks.due("m is done", x.sync(1), -1);
        Checks.due("synced", x.synced(), 2);
    }

    private static void syncWithNothingToSend() {
        Checks.part("promise 14, nothing to send");
        HistoricalTreeStore x = new HistoricalTreeStore();
        Checks.due("write", x.write(1, 1, 1), true);
        Checks.due("remove", x.remove(1, 1), true);
        Checks.due("m is done while a change is open", x.sync(1), -1);
        Checks.due("commit", x.commit(), 1);
        Checks.due("sync", x.sync(1), 0);
        Checks.due("synced", x.synced(), 1);
        Checks.due("sync again", x.sync(1), -1);
    }

    private static void syncEndsWithTheLastRecord() {
        Checks.part("promises 14 and 15, end");
        HistoricalTreeStore x = new HistoricalTreeStore();
        Runs.fill(x, 0, 6);
        Checks.due("three", x.sync(3), 3);
        Checks.due("under way", x.synced(), 1000000);
        Checks.due("three", x.sync(3), 3);
        Checks.due("over at once", x.synced(), 1);
        Runs.fill(x, 10, 12);
        Checks.due("one", x.sync(1), 1);
        Checks.due("under way", x.synced(), 1000001);
        Checks.due("fewer than asked for", x.sync(50), 1);
        Checks.due("over", x.synced(), 2);
    }

    private static void syncSendsInOrder() {
        Checks.part("promise 14, order");
        HistoricalTreeStore x = new HistoricalTreeStore();
        int[] objs = {3, -2, 3, Integer.MAX_VALUE, Integer.MIN_VALUE};
        int[] keys = {8, 4, -8, Integer.MIN_VALUE, Integer.MAX_VALUE};
        for (int value = 1; value <= 2; value++) {
            for (int i = 0; i < objs.length; i++) {
                Checks.due("write", x.write(objs[i], keys[i], value * 10 + i), true);
            }
            Checks.due("commit", x.commit(), value);
        }
        Checks.due("use", x.use(1), true);
        int[] order = {4, 1, 2, 0, 3};
        for (int i = 0; i < order.length; i++) {
            int at = order[i];
            Checks.due("send the older", x.sync(1), 1);
            Checks.due("older at 1", x.read(objs[at], keys[at], 1), 10 + at);
            Checks.due("older has ended", x.has(objs[at], keys[at], 2), false);
            Checks.due("under way", x.synced(), 1000000);
            Checks.due("send the newer", x.sync(1), 1);
            Checks.due("newer at 2", x.read(objs[at], keys[at], 2), 20 + at);
            Checks.due("size", x.size(), 2 * i + 2);
        }
        Checks.due("over", x.synced(), 2);
    }

    private static void syncSendsEndsOfOldRecords() {
        Checks.part("promise 14, ends");
        HistoricalTreeStore x = new HistoricalTreeStore();
        Runs.fill(x, 1, 4);
        Checks.due("sync", x.sync(50), 3);
        Checks.due("remove", x.remove(1, 0), true);
        Checks.due("write", x.write(2, 0, 99), true);
        Checks.due("commit", x.commit(), 2);
        Checks.due("use", x.use(1), true);
        Checks.due("not yet told", x.read(1, 0, 2), 2);
        Checks.due("the end of (1, 0)", x.sync(1), 1);
        Checks.due("told", x.has(1, 0, 2), false);
        Checks.due("history stays", x.read(1, 0, 1), 2);
        Checks.due("the end of (2, 0)", x.sync(1), 1);
        Checks.due("told", x.has(2, 0, 2), false);
        Checks.due("no record added so far", x.size(), 3);
        Checks.due("the new (2, 0)", x.sync(1), 1);
        Checks.due("told", x.read(2, 0, 2), 99);
        Checks.due("old value", x.read(2, 0, 1), 3);
        Checks.due("size", x.size(), 4);
        Checks.due("over", x.synced(), 2);
    }

    private static void syncSendsOnlyWhatChanged() {
        Checks.part("promise 14, only what changed");
        HistoricalTreeStore x = new HistoricalTreeStore();
        Runs.commitWrites(x, 1, 1, 3);
        Checks.due("sync", x.sync(50), 3);
        Runs.commitWrites(x, 2, 2, 1);
        Checks.due("one new record", x.sync(50), 1);
        Checks.due("remove", x.remove(1, 1), true);
        Checks.due("commit", x.commit(), 5);
        Checks.due("one end", x.sync(50), 1);
        Checks.due("write", x.write(3, 3, 3), true);
        Checks.due("remove", x.remove(3, 3), true);
        Checks.due("commit", x.commit(), 6);
        Checks.due("nothing is left of it", x.sync(50), 0);
        Checks.due("synced", x.synced(), 6);
    }

    private static void syncKeepsItsGoal() {
        Checks.part("promise 14, goal");
        HistoricalTreeStore x = new HistoricalTreeStore();
        Runs.fill(x, 1, 4);
        Checks.due("sync one", x.sync(1), 1);
        Checks.due("end a sent one", x.remove(1, 0), true);
        Checks.due("end one that waits", x.remove(2, 0), true);
        Checks.due("rewrite one that waits", x.write(3, 0, 33), true);
        Checks.due("a new one", x.write(9, 0, 9), true);
        Checks.due("commit", x.commit(), 2);
        Checks.due("the old goal", x.sync(50), 2);
        Checks.due("synced up to it", x.synced(), 1);
        Checks.due("use", x.use(1), true);
        Checks.due("size", x.size(), 3);
        Checks.due("a later end is not sent", x.read(2, 0, 2), 3);
        Checks.due("a later value is not sent", x.read(3, 0, 2), 4);
        Checks.due("the next sync", x.sync(50), 5);
        Checks.due("synced", x.synced(), 2);
        Checks.due("size", x.size(), 5);
        Checks.due("ended", x.has(1, 0, 2), false);
        Checks.due("ended", x.has(2, 0, 2), false);
        Checks.due("rewritten", x.read(3, 0, 2), 33);
        Checks.due("before", x.read(3, 0, 1), 4);
        Checks.due("new", x.read(9, 0, 2), 9);
    }

    private static void syncLeavesLaterEndsOut() {
        Checks.part("promise 14, ends above the goal");
        HistoricalTreeStore x = new HistoricalTreeStore();
        Runs.fill(x, 1, 4);
        Checks.due("sync", x.sync(50), 3);
        Checks.due("remove", x.remove(1, 0), true);
        Checks.due("remove", x.remove(3, 0), true);
        Checks.due("commit", x.commit(), 2);
        Checks.due("the first end", x.sync(1), 1);
        Checks.due("an end while it is under way", x.remove(2, 0), true);
        Checks.due("commit", x.commit(), 3);
        Checks.due("is not sent with it", x.sync(50), 1);
        Checks.due("synced", x.synced(), 2);
        Checks.due("but with the next", x.sync(50), 1);
        Checks.due("synced", x.synced(), 3);
        Checks.due("use", x.use(1), true);
        Checks.due("told", x.has(2, 0, 3), false);
    }

    private static void syncLeavesOpenChangesOut() {
        Checks.part("promise 14, open changes");
        HistoricalTreeStore x = new HistoricalTreeStore();
        Runs.fill(x, 1, 3);
        Checks.due("open end", x.remove(1, 0), true);
        Checks.due("open value", x.write(2, 0, 22), true);
        Checks.due("sync", x.sync(50), 2);
        Checks.due("synced", x.synced(), 1);
        Checks.due("abort", x.abort(), 2);
        Checks.due("use", x.use(1), true);
        Checks.due("size", x.size(), 2);
        Checks.due("no end", x.read(1, 0, 2), 2);
        Checks.due("old value", x.read(2, 0, 2), 3);
        Checks.due("m is done", x.sync(50), -1);
    }

    private static void syncStopsAtAFullMirror() {
        Checks.part("promise 14, full mirror");
        HistoricalTreeStore x = new HistoricalTreeStore();
        Runs.fill(x, 0, 60);
        Checks.due("sync", x.sync(50), 50);
        Checks.due("sync", x.sync(50), 10);
        Runs.endAll(x, 0, 60);
        Checks.due("sync", x.sync(50), 50);
        Checks.due("sync", x.sync(50), 10);
        Checks.due("prune the master", x.prune(), 60);
        Runs.fill(x, 100, 145);
        Checks.due("forty fit", x.sync(50), 40);
        Checks.due("still under way", x.synced(), 1000004);
        Checks.due("nothing fits", x.sync(50), 0);
        Checks.due("still under way", x.synced(), 1000004);
        Checks.due("use", x.use(1), true);
        Checks.due("size", x.size(), 100);
        Checks.due("prune the mirror", x.prune(), 60);
        Checks.due("the first that waited", x.sync(1), 1);
        Checks.due("is the next in order", x.read(140, 0, 6), 141);
        Checks.due("the rest", x.sync(50), 4);
        Checks.due("over", x.synced(), 6);
        Checks.due("size", x.size(), 45);
    }

    private static void fullMirrorStillTakesEnds() {
        Checks.part("promise 14, ends in a full mirror");
        HistoricalTreeStore x = new HistoricalTreeStore();
        Runs.fill(x, 0, 100);
        Checks.due("sync", x.sync(50), 50);
        Checks.due("sync", x.sync(50), 50);
        Checks.due("remove", x.remove(5, 0), true);
        Checks.due("remove", x.remove(7, 0), true);
        Checks.due("commit", x.commit(), 4);
        Checks.due("both ends", x.sync(50), 2);
        Checks.due("over", x.synced(), 4);
        Checks.due("prune the master", x.prune(), 2);
        Checks.due("a new one between", x.write(6, 0, 66), true);
        Checks.due("an end before it", x.remove(4, 0), true);
        Checks.due("an end after it", x.remove(8, 0), true);
        Checks.due("commit", x.commit(), 5);
        Checks.due("two ends, then the new one does not fit", x.sync(50), 2);
        Checks.due("under way", x.synced(), 1000004);
        Checks.due("use", x.use(1), true);
        Checks.due("told", x.has(4, 0, 5), false);
        Checks.due("the old (6, 0) has ended", x.has(6, 0, 5), false);
        Checks.due("what comes after waits too", x.has(8, 0, 5), true);
        Checks.due("prune the mirror", x.prune(), 4);
        Checks.due("the rest", x.sync(50), 2);
        Checks.due("told", x.read(6, 0, 5), 66);
        Checks.due("told", x.has(8, 0, 5), false);
        Checks.due("over", x.synced(), 5);
    }

    private static void syncAfterAPrunedMirror() {
        Checks.part("promise 14, a record that the mirror has lost");
        HistoricalTreeStore x = new HistoricalTreeStore();
        Runs.fill(x, 1, 3);
        Checks.due("sync", x.sync(50), 2);
        Checks.due("remove", x.remove(1, 0), true);
        Checks.due("remove", x.remove(2, 0), true);
        Checks.due("commit", x.commit(), 2);
        Checks.due("one end", x.sync(1), 1);
        Checks.due("use", x.use(1), true);
        Checks.due("prune it from the mirror", x.prune(), 1);
        Checks.due("crash", x.crash(), 0);
        Checks.due("a new sync sends it anew", x.sync(50), 2);
        Checks.due("use", x.use(1), true);
        Checks.due("size", x.size(), 2);
        Checks.due("value", x.read(1, 0, 1), 2);
        Checks.due("end", x.has(1, 0, 2), false);
        Checks.due("synced", x.synced(), 2);
    }
}
