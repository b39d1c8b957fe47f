/** Promises 7 to 11, 16 and 17: use, has, read, next, found, size, done. */
public final class QuestionsTest {
    private static final int LOW = Integer.MIN_VALUE;
    private static final int HIGH = Integer.MAX_VALUE;

    public static void main(String[] args) {
        useChoosesTheVolume();
        useRefuses();
        hasAndReadAtEdges();
        nextInOrder();
        nextAtTheEndsOfInt();
        nextSeesOnlyTheVisible();
        nextAsksTheVolumeInUse();
        foundTellsTheLatestNext();
        sizeAndDone();
        Checks.finish();
    }

    private static void useChoosesTheVolume() {
        Checks.part("promise 7, use");
        HistoricalTreeStore x = new HistoricalTreeStore();
        Runs.commitWrites(x, 1, 1, 1);
        Checks.due("sync", x.sync(1), 1);
        Runs.commitWrites(x, 1, 1, 1);
        Checks.due("use 1", x.use(1), true);
        Checks.due("size", x.size(), 1);
        Checks.due("read", x.read(1, 1, 2), 1);
        Checks.due("use 1 again", x.use(1), true);
        Checks.due("size", x.size(), 1);
        Checks.due("use 0", x.use(0), true);
        Checks.due("size", x.size(), 2);
        Checks.due("read", x.read(1, 1, 2), 2);
    }

    private static void useRefuses() {
        Checks.part("promise 7, no such volume");
        HistoricalTreeStore x = new HistoricalTreeStore();
        Runs.commitWrites(x, 1, 1, 1);
        for (int volume : new int[] {2, -1, 3, LOW, HIGH}) {
            Checks.due("use 0", x.use(0), true);
            Checks.due("use " + volume, x.use(volume), false);
            Checks.due("still the master", x.size(), 1);
            Checks.due("use 1", x.use(1), true);
            Checks.due("use " + volume, x.use(volume), false);
            Checks.due("still the mirror", x.size(), 0);
        }
    }

    private static void hasAndReadAtEdges() {
        Checks.part("promises 8 and 9, visible");
        HistoricalTreeStore x = new HistoricalTreeStore();
        Runs.commitWrites(x, 9, 9, 2);
        Checks.due("write", x.write(1, 1, -5), true);
        Checks.due("commit", x.commit(), 3);
        Runs.commitWrites(x, 9, 9, 1);
        Checks.due("remove", x.remove(1, 1), true);
        Checks.due("commit", x.commit(), 5);
        int[] times = {LOW, -1, 0, 2, 3, 4, 5, 6, HIGH};
        for (int t : times) {
            boolean there = t == 3 || t == 4;
            Checks.due("has at " + t, x.has(1, 1, t), there);
            Checks.due("read at " + t, x.read(1, 1, t), there ? -5 : 0);
            Checks.due("key swapped", x.has(1, 2, t), false);
            Checks.due("obj swapped", x.has(2, 1, t), false);
            Checks.due("read another", x.read(2, 1, t), 0);
        }
        Checks.due("a record without an end", x.read(9, 9, HIGH), 4);
        Checks.due("not before its birth", x.has(9, 9, 0), false);
        Checks.due("never before", x.has(9, 9, LOW), false);
        Checks.due("write a zero", x.write(3, 3, 0), true);
        Checks.due("it is there", x.has(3, 3, 6), true);
        Checks.due("read zero", x.read(3, 3, 6), 0);
    }

    private static void nextInOrder() {
        Checks.part("promise 10, order");
        HistoricalTreeStore x = new HistoricalTreeStore();
        int[] objs = {2, -1, 2, 0, -1, 2};
        int[] keys = {5, 7, -3, 0, -9, 4};
        for (int i = 0; i < objs.length; i++) {
            Checks.due("write", x.write(objs[i], keys[i], 100 + i), true);
        }
        int[] order = {4, 1, 3, 2, 5, 0};
        int obj = LOW;
        int key = LOW;
        for (int i : order) {
            Checks.due("next", x.next(obj, key, 1), true);
            Looks.foundIs(x, objs[i], keys[i], 100 + i, 1);
            obj = objs[i];
            key = keys[i];
        }
        Checks.due("next after the last", x.next(obj, key, 1), false);
        Looks.foundIs(x, 2, 5, 100, 1);
        Checks.due("key counts before obj grows", x.next(2, 4, 1), true);
        Looks.foundIs(x, 2, 5, 100, 1);
        Checks.due("a great key", x.next(-1, HIGH, 1), true);
        Looks.foundIs(x, 0, 0, 103, 1);
        Checks.due("nothing at 0", x.next(LOW, LOW, 0), false);
    }

    private static void nextAtTheEndsOfInt() {
        Checks.part("promise 10, ends of int");
        HistoricalTreeStore x = new HistoricalTreeStore();
        Checks.due("write", x.write(LOW, LOW, 1), true);
        Checks.due("write", x.write(HIGH, HIGH, 2), true);
        Checks.due("next after the least", x.next(LOW, LOW, 1), true);
        Looks.foundIs(x, HIGH, HIGH, 2, 1);
        Checks.due("next after the greatest", x.next(HIGH, HIGH, 1), false);
        Checks.due("write", x.write(LOW, LOW + 1, 3), true);
        Checks.due("next after the least", x.next(LOW, LOW, 1), true);
        Looks.foundIs(x, LOW, LOW + 1, 3, 1);
        Checks.due("next before the greatest", x.next(HIGH, HIGH - 1, 1), true);
        Looks.foundIs(x, HIGH, HIGH, 2, 1);
    }

    private static void nextSeesOnlyTheVisible() {
        Checks.part("promise 10, visible");
        HistoricalTreeStore x = new HistoricalTreeStore();
        Runs.commitWrites(x, 1, 1, 1);
        Runs.commitWrites(x, 2, 2, 1);
        Checks.due("remove", x.remove(1, 1), true);
        Checks.due("commit", x.commit(), 3);
        Runs.commitWrites(x, 2, 2, 1);
        Checks.due("at 0", x.next(0, 0, 0), false);
        Checks.due("at 1", x.next(0, 0, 1), true);
        Looks.foundIs(x, 1, 1, 1, 1);
        Checks.due("beyond, at 1", x.next(1, 1, 1), false);
        Checks.due("at 2", x.next(1, 1, 2), true);
        Looks.foundIs(x, 2, 2, 2, 2);
        Checks.due("at 3", x.next(0, 0, 3), true);
        Looks.foundIs(x, 2, 2, 2, 2);
        Checks.due("at 4", x.next(0, 0, 4), true);
        Looks.foundIs(x, 2, 2, 4, 4);
        Checks.due("later", x.next(0, 0, HIGH), true);
        Looks.foundIs(x, 2, 2, 4, 4);
    }

    private static void nextAsksTheVolumeInUse() {
        Checks.part("promise 10, volume");
        HistoricalTreeStore x = new HistoricalTreeStore();
        Runs.fill(x, 1, 4);
        Checks.due("sync two", x.sync(2), 2);
        Checks.due("use 1", x.use(1), true);
        Checks.due("next", x.next(1, 0, 1), true);
        Looks.foundIs(x, 2, 0, 3, 1);
        Checks.due("not sent yet", x.next(2, 0, 1), false);
        Checks.due("use 0", x.use(0), true);
        Checks.due("found does not follow use", x.found(0), 2);
        Checks.due("next", x.next(2, 0, 1), true);
        Looks.foundIs(x, 3, 0, 4, 1);
    }

    private static void foundTellsTheLatestNext() {
        Checks.part("promise 11, found");
        HistoricalTreeStore x = new HistoricalTreeStore();
        Looks.foundIs(x, 0, 0, 0, 0);
        Checks.due("next that finds none", x.next(0, 0, 1), false);
        Looks.foundIs(x, 0, 0, 0, 0);
        Runs.commitWrites(x, 7, 8, 1);
        Checks.due("write", x.write(7, 8, -9), true);
        Checks.due("next", x.next(0, 0, 2), true);
        Looks.foundIs(x, 7, 8, -9, 2);
        Checks.due("write again", x.write(7, 8, 10), true);
        Looks.foundIs(x, 7, 8, -9, 2);
        Checks.due("abort", x.abort(), 2);
        Looks.foundIs(x, 7, 8, -9, 2);
        Checks.due("next that finds none", x.next(7, 8, 2), false);
        Looks.foundIs(x, 7, 8, -9, 2);
        Checks.due("crash", x.crash(), 0);
        Looks.foundIs(x, 7, 8, -9, 2);
        for (int which : new int[] {4, 5, -1, LOW, HIGH}) {
            Checks.due("found " + which, x.found(which), 0);
        }
    }

    private static void sizeAndDone() {
        Checks.part("promises 16 and 17, size and done");
        HistoricalTreeStore x = new HistoricalTreeStore();
        Checks.due("write", x.write(1, 1, 1), true);
        Checks.due("the open transaction is not done", x.done(), 0);
        Checks.due("its records count", x.size(), 1);
        Checks.due("commit", x.commit(), 1);
        Checks.due("done", x.done(), 1);
        Runs.commitWrites(x, 1, 1, 4);
        Checks.due("ended records count", x.size(), 5);
        Checks.due("done", x.done(), 5);
        Checks.due("sync", x.sync(3), 3);
        Checks.due("use", x.use(1), true);
        Checks.due("size of the mirror", x.size(), 3);
        Checks.due("done is the same from either volume", x.done(), 5);
    }
}
