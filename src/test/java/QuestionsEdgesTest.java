/** The edges that promises 7 to 11, 16 and 17 name; one test to a sentence. */
public final class QuestionsEdgesTest {
    private static final int LOW = Looks.LOW;
    private static final int HIGH = Looks.HIGH;

    public static void main(String[] args) {
        useTakesZeroAndOne();
        useRefusesAllOthers();
        useTurnsEveryQuestion();
        useTurnsNothingElse();
        hasAtTheEdges();
        hasOfAnotherKey();
        readOfNone();
        readOfEachVersion();
        nextInAnEmptyVolume();
        nextIsGreater();
        nextIsTheLeast();
        nextGoesByObjFirst();
        nextAtTheEndsOfInt();
        nextFromOutside();
        nextSeesVisibleOnes();
        nextTakesTheVisibleVersion();
        nextWithNoneKeepsFound();
        foundWithoutNext();
        foundOfOthers();
        foundIsTheValueThen();
        foundOfTheLatest();
        sizeAtTheEdges();
        sizeOfEitherVolume();
        doneAtTheEdges();
        Checks.finish();
    }

    private static void useTakesZeroAndOne() {
        Checks.part("promise 7, 'false if volume is neither 0 nor 1'");
        HistoricalTreeStore x = new HistoricalTreeStore();
        Runs.commitWrites(x, 1, 1, 1);
        Checks.due("-1", x.use(-1), false);
        Checks.due("size", x.size(), 1);
        Checks.due("0", x.use(0), true);
        Checks.due("size", x.size(), 1);
        Checks.due("1", x.use(1), true);
        Checks.due("size", x.size(), 0);
        Checks.due("2", x.use(2), false);
        Checks.due("size", x.size(), 0);
        Checks.due("1 again", x.use(1), true);
        Checks.due("size", x.size(), 0);
        Checks.due("0 again", x.use(0), true);
        Checks.due("size", x.size(), 1);
    }

    private static void useRefusesAllOthers() {
        Checks.part("promise 7, a refused use");
        HistoricalTreeStore x = new HistoricalTreeStore();
        Runs.commitWrites(x, 1, 1, 1);
        for (int volume : new int[] {LOW, LOW + 1, -2, -1, 2, 3, 256, 65536, HIGH - 1, HIGH}) {
            Checks.due("use 0", x.use(0), true);
            Checks.due("use " + volume, x.use(volume), false);
            Checks.due("still the master", x.has(1, 1, 1), true);
            Checks.due("use 1", x.use(1), true);
            Checks.due("use " + volume, x.use(volume), false);
            Checks.due("still the mirror", x.has(1, 1, 1), false);
        }
    }

    private static void useTurnsEveryQuestion() {
        Checks.part("promise 7, 'questions (read, has, next, size, prune) go to that volume'");
        HistoricalTreeStore x = new HistoricalTreeStore();
        Runs.commitWrites(x, 1, 1, 2);
        Runs.syncAll(x);
        Runs.commitWrites(x, 1, 1, 1);
        Runs.commitWrite(x, 2, 2, 20);
        Checks.due("use 1", x.use(1), true);
        Checks.due("read", x.read(1, 1, 3), 2);
        Checks.due("has", x.has(2, 2, 4), false);
        Checks.due("next", x.next(1, 1, 4), false);
        Checks.due("size", x.size(), 2);
        Checks.due("prune", x.prune(), 1);
        Checks.due("size", x.size(), 1);
        Checks.due("use 0", x.use(0), true);
        Checks.due("read", x.read(1, 1, 3), 3);
        Checks.due("has", x.has(2, 2, 4), true);
        Checks.due("next", x.next(1, 1, 4), true);
        Checks.due("size", x.size(), 4);
        Checks.due("prune", x.prune(), 1);
        Checks.due("size", x.size(), 3);
    }

    private static void useTurnsNothingElse() {
        Checks.part("promise 7, what does not depend on the volume");
        HistoricalTreeStore x = new HistoricalTreeStore();
        Runs.fill(x, 0, 3);
        Checks.due("next", x.next(0, 0, 1), true);
        Checks.due("use 1", x.use(1), true);
        Looks.foundIs(x, 1, 0, 2, 1);
        Checks.due("done", x.done(), 1);
        Checks.due("sync", x.sync(2), 2);
        Checks.due("use 0", x.use(0), true);
        Checks.due("synced", x.synced(), 1000000);
        Checks.due("sync", x.sync(2), 1);
        Checks.due("snapshot", x.snapshot(1), true);
        Checks.due("use 1", x.use(1), true);
        Checks.due("the same snapshot", x.snapshot(1), true);
        Checks.due("synced", x.synced(), 1);
        Checks.due("write", x.write(9, 9, 9), true);
        Checks.due("use 0", x.use(0), true);
        Checks.due("the same transaction", x.abort(), 1);
    }

    private static void hasAtTheEdges() {
        Checks.part("promise 8, 'a record of (obj, key) that is visible at t'");
        HistoricalTreeStore x = new HistoricalTreeStore();
        Runs.commitNothing(x, 1);
        Runs.commitWrite(x, 1, 1, 10);
        Runs.commitNothing(x, 1);
        Runs.commitRemove(x, 1, 1);
        Runs.commitNothing(x, 1);
        Runs.commitWrite(x, 1, 1, 20);
        boolean[] there = {false, false, true, true, false, false, true, true};
        Runs.syncAll(x);
        for (int volume = 0; volume <= 1; volume++) {
            Checks.due("use", x.use(volume), true);
            for (int t = 0; t < there.length; t++) {
                Checks.due("has at " + t, x.has(1, 1, t), there[t]);
            }
            Checks.due("has at the least t", x.has(1, 1, LOW), false);
            Checks.due("has at -1", x.has(1, 1, -1), false);
            Checks.due("has at the greatest t", x.has(1, 1, HIGH), true);
        }
    }

    private static void hasOfAnotherKey() {
        Checks.part("promise 8, another obj or key");
        HistoricalTreeStore x = new HistoricalTreeStore();
        Runs.commitWrite(x, 5, 7, 1);
        Checks.due("itself", x.has(5, 7, 1), true);
        Checks.due("obj below", x.has(4, 7, 1), false);
        Checks.due("obj above", x.has(6, 7, 1), false);
        Checks.due("key below", x.has(5, 6, 1), false);
        Checks.due("key above", x.has(5, 8, 1), false);
        Checks.due("swapped", x.has(7, 5, 1), false);
        Checks.due("both negative", x.has(-5, -7, 1), false);
        Checks.due("the same sum", x.has(6, 6, 1), false);
    }

    private static void readOfNone() {
        Checks.part("promise 9, '0 if there is none'");
        HistoricalTreeStore x = new HistoricalTreeStore();
        Checks.due("empty", x.read(1, 1, 1), 0);
        Runs.commitWrite(x, 1, 1, 10);
        Runs.commitRemove(x, 1, 1);
        Checks.due("before born", x.read(1, 1, 0), 0);
        Checks.due("at born", x.read(1, 1, 1), 10);
        Checks.due("at died", x.read(1, 1, 2), 0);
        Checks.due("another key", x.read(1, 2, 1), 0);
        Checks.due("another obj", x.read(2, 1, 1), 0);
        Checks.due("write a 0", x.write(2, 2, 0), true);
        Checks.due("a value of 0", x.read(2, 2, 3), 0);
        Checks.due("is there", x.has(2, 2, 3), true);
        for (int value : new int[] {LOW, -1, 1, HIGH}) {
            Checks.due("write " + value, x.write(2, 2, value), true);
            Checks.due("read " + value, x.read(2, 2, 3), value);
        }
    }

    private static void readOfEachVersion() {
        Checks.part("promise 9, each version at its time");
        HistoricalTreeStore x = new HistoricalTreeStore();
        for (int i = 1; i <= 10; i++) {
            Runs.commitWrite(x, 1, 1, 100 - i);
            Runs.commitNothing(x, 1);
        }
        Runs.syncAll(x);
        for (int volume = 0; volume <= 1; volume++) {
            Checks.due("use", x.use(volume), true);
            for (int i = 1; i <= 10; i++) {
                Checks.due("at born", x.read(1, 1, 2 * i - 1), 100 - i);
                Checks.due("just before died", x.read(1, 1, 2 * i), 100 - i);
            }
            Checks.due("before all", x.read(1, 1, 0), 0);
        }
    }

    private static void nextInAnEmptyVolume() {
        Checks.part("promise 10, 'false if there is none': empty");
        HistoricalTreeStore x = new HistoricalTreeStore();
        Checks.due("master", x.next(LOW, LOW, HIGH), false);
        Checks.due("mirror", x.use(1), true);
        Checks.due("mirror", x.next(LOW, LOW, HIGH), false);
        Runs.commitWrite(x, 1, 1, 10);
        Checks.due("mirror, a record in the master", x.next(LOW, LOW, 1), false);
        Checks.due("sync", x.sync(1), 1);
        Checks.due("mirror, a record in it", x.next(LOW, LOW, 1), true);
    }

    private static void nextIsGreater() {
        Checks.part("promise 10, 'greater than (obj, key)'");
        HistoricalTreeStore x = new HistoricalTreeStore();
        Runs.commitWrite(x, 5, 7, 57);
        Checks.due("key just below", x.next(5, 6, 1), true);
        Checks.due("the same", x.next(5, 7, 1), false);
        Checks.due("key just above", x.next(5, 8, 1), false);
        Checks.due("obj just below", x.next(4, 7, 1), true);
        Checks.due("obj just below, greatest key", x.next(4, HIGH, 1), true);
        Checks.due("obj just above", x.next(6, 7, 1), false);
        Checks.due("obj just above, least key", x.next(6, LOW, 1), false);
        Checks.due("the same obj, least key", x.next(5, LOW, 1), true);
        Checks.due("the same obj, greatest key", x.next(5, HIGH, 1), false);
        Looks.foundIs(x, 5, 7, 57, 1);
    }

    private static void nextIsTheLeast() {
        Checks.part("promise 10, 'the least (obj', key')'");
        HistoricalTreeStore x = new HistoricalTreeStore();
        int[] keys = {4, 0, 8, 2, 6};
        for (int key : keys) {
            Checks.due("write", x.write(1, key, 100 + key), true);
        }
        for (int key = -1; key < 8; key++) {
            int least = key + (key % 2 == 0 ? 2 : 1);
            Checks.due("next after " + key, x.next(1, key, 1), true);
            Looks.foundIs(x, 1, least, 100 + least, 1);
        }
        Checks.due("next after the last", x.next(1, 8, 1), false);
        Checks.due("next below all", x.next(1, -2, 1), true);
        Looks.foundIs(x, 1, 0, 100, 1);
    }

    private static void nextGoesByObjFirst() {
        Checks.part("promise 10, 'first by obj, then by key'");
        HistoricalTreeStore x = new HistoricalTreeStore();
        Checks.due("write", x.write(2, -9, 29), true);
        Checks.due("write", x.write(1, 9, 19), true);
        Checks.due("write", x.write(3, 0, 30), true);
        Checks.due("a small obj before a small key", x.next(0, 0, 1), true);
        Looks.foundIs(x, 1, 9, 19, 1);
        Checks.due("a small key of a greater obj", x.next(1, 9, 1), true);
        Looks.foundIs(x, 2, -9, 29, 1);
        Checks.due("a smaller key of the same obj does not count", x.next(2, 0, 1), true);
        Looks.foundIs(x, 3, 0, 30, 1);
        Checks.due("nor one of a smaller obj", x.next(3, 0, 1), false);
    }

    private static void nextAtTheEndsOfInt() {
        Checks.part("promise 10, the ends of int");
        HistoricalTreeStore x = new HistoricalTreeStore();
        int[] ends = {LOW, LOW + 1, -1, 0, HIGH - 1, HIGH};
        for (int i = ends.length - 1; i >= 0; i--) {
            for (int key : ends) {
                Checks.due("write", x.write(ends[i], key, ends[i] ^ key), true);
            }
        }
        int obj = LOW;
        int key = LOW;
        for (int i = 1; i < 36; i++) {
            Checks.due("next " + i, x.next(obj, key, 1), true);
            obj = ends[i / 6];
            key = ends[i % 6];
            Looks.foundIs(x, obj, key, obj ^ key, 1);
        }
        Checks.due("nothing after the greatest", x.next(HIGH, HIGH, 1), false);
        Looks.foundIs(x, HIGH, HIGH, 0, 1);
    }

    private static void nextFromOutside() {
        Checks.part("promise 10, a place that has no record");
        HistoricalTreeStore x = new HistoricalTreeStore();
        Runs.commitWrite(x, LOW, LOW, 1);
        Checks.due("the least place is after no other", x.next(LOW, LOW, 1), false);
        Runs.commitWrite(x, HIGH, HIGH, 2);
        Checks.due("from the least", x.next(LOW, LOW, 2), true);
        Checks.due("is the greatest", x.found(0), HIGH);
        Checks.due("from between", x.next(0, 0, 2), true);
        Checks.due("from just below", x.next(HIGH, HIGH - 1, 2), true);
        Checks.due("from the greatest", x.next(HIGH, HIGH, 2), false);
    }

    private static void nextSeesVisibleOnes() {
        Checks.part("promise 10, 'of which the volume has a record visible at t'");
        HistoricalTreeStore x = new HistoricalTreeStore();
        Runs.commitNothing(x, 1);
        Runs.commitWrite(x, 1, 1, 10);
        Runs.commitWrite(x, 2, 2, 20);
        Runs.commitNothing(x, 1);
        Runs.commitRemove(x, 1, 1);
        Runs.commitRemove(x, 2, 2);
        int[] found = {0, 0, 1, 1, 1, 2, 0, 0};
        Runs.syncAll(x);
        for (int volume = 0; volume <= 1; volume++) {
            Checks.due("use", x.use(volume), true);
            for (int t = 0; t < found.length; t++) {
                Checks.due("next at " + t, x.next(0, 0, t), found[t] != 0);
                if (found[t] != 0) {
                    Checks.due("found at " + t, x.found(0), found[t]);
                }
            }
            Checks.due("next at the least t", x.next(0, 0, LOW), false);
            Checks.due("next at the greatest t", x.next(0, 0, HIGH), false);
        }
    }

    private static void nextTakesTheVisibleVersion() {
        Checks.part("promise 10, several versions of one key");
        HistoricalTreeStore x = new HistoricalTreeStore();
        for (int i = 1; i <= 5; i++) {
            Runs.commitWrite(x, 1, 1, 10 * i);
        }
        for (int t = 1; t <= 5; t++) {
            Checks.due("next at " + t, x.next(1, 0, t), true);
            Looks.foundIs(x, 1, 1, 10 * t, t);
            Checks.due("no second version after it", x.next(1, 1, t), false);
        }
        Checks.due("write in the open transaction", x.write(1, 1, 60), true);
        Checks.due("next at done + 1", x.next(1, 0, 6), true);
        Looks.foundIs(x, 1, 1, 60, 6);
        Checks.due("next at done", x.next(1, 0, 5), true);
        Looks.foundIs(x, 1, 1, 50, 5);
    }

    private static void nextWithNoneKeepsFound() {
        Checks.part("promise 10, 'false if there is none, and then found stays'");
        HistoricalTreeStore x = new HistoricalTreeStore();
        Checks.due("none, and none before", x.next(0, 0, 1), false);
        Looks.foundIs(x, 0, 0, 0, 0);
        Runs.commitWrite(x, 3, 4, 34);
        Runs.commitWrite(x, 5, 6, 56);
        Checks.due("next", x.next(0, 0, 2), true);
        Looks.foundIs(x, 3, 4, 34, 1);
        Checks.due("none after the last", x.next(5, 6, 2), false);
        Looks.foundIs(x, 3, 4, 34, 1);
        Checks.due("none at that time", x.next(0, 0, 0), false);
        Looks.foundIs(x, 3, 4, 34, 1);
        Checks.due("use", x.use(1), true);
        Checks.due("none in that volume", x.next(0, 0, 2), false);
        Looks.foundIs(x, 3, 4, 34, 1);
        Checks.due("use", x.use(0), true);
        Checks.due("next", x.next(3, 4, 2), true);
        Looks.foundIs(x, 5, 6, 56, 2);
    }

    private static void foundWithoutNext() {
        Checks.part("promise 11, '0 .. if there was none'");
        HistoricalTreeStore x = new HistoricalTreeStore();
        Looks.foundIs(x, 0, 0, 0, 0);
        Runs.commitWrite(x, 3, 4, 34);
        Looks.foundIs(x, 0, 0, 0, 0);
        Checks.due("has is no next", x.has(3, 4, 1), true);
        Checks.due("read is no next", x.read(3, 4, 1), 34);
        Looks.foundIs(x, 0, 0, 0, 0);
        Checks.due("a next that finds none", x.next(3, 4, 1), false);
        Looks.foundIs(x, 0, 0, 0, 0);
    }

    private static void foundOfOthers() {
        Checks.part("promise 11, '0 for others'");
        HistoricalTreeStore x = new HistoricalTreeStore();
        Runs.commitWrite(x, 3, 4, 34);
        Checks.due("next", x.next(0, 0, 1), true);
        Checks.due("-1", x.found(-1), 0);
        Checks.due("0", x.found(0), 3);
        Checks.due("1", x.found(1), 4);
        Checks.due("2", x.found(2), 34);
        Checks.due("3", x.found(3), 1);
        Checks.due("4", x.found(4), 0);
        for (int which : new int[] {LOW, LOW + 1, -4, -2, 5, 7, 8, 256, HIGH - 1, HIGH}) {
            Checks.due("" + which, x.found(which), 0);
        }
        Looks.foundIs(x, 3, 4, 34, 1);
    }

    private static void foundIsTheValueThen() {
        Checks.part("promise 11, 'the value then'");
        HistoricalTreeStore x = new HistoricalTreeStore();
        Checks.due("write", x.write(3, 4, 34), true);
        Checks.due("next", x.next(0, 0, 1), true);
        Checks.due("write another value", x.write(3, 4, 35), true);
        Looks.foundIs(x, 3, 4, 34, 1);
        Checks.due("remove", x.remove(3, 4), true);
        Looks.foundIs(x, 3, 4, 34, 1);
        Checks.due("commit, which takes it away", x.commit(), 1);
        Looks.foundIs(x, 3, 4, 34, 1);
        Runs.commitWrite(x, 5, 6, 56);
        Runs.commitRemove(x, 5, 6);
        Checks.due("next", x.next(0, 0, 2), true);
        Runs.syncAll(x);
        Checks.due("prune, which takes it away", x.prune(), 1);
        Looks.foundIs(x, 5, 6, 56, 2);
        Checks.due("crash", x.crash(), 0);
        Looks.foundIs(x, 5, 6, 56, 2);
        Checks.due("use", x.use(1), true);
        Looks.foundIs(x, 5, 6, 56, 2);
    }

    private static void foundOfTheLatest() {
        Checks.part("promise 11, 'of the latest next that answered true'");
        HistoricalTreeStore x = new HistoricalTreeStore();
        Runs.commitWrite(x, 3, 4, 34);
        Runs.commitWrite(x, 3, 4, 35);
        Runs.commitWrite(x, 5, 6, 0);
        Checks.due("next", x.next(0, 0, 1), true);
        Looks.foundIs(x, 3, 4, 34, 1);
        Checks.due("a later time", x.next(0, 0, 3), true);
        Looks.foundIs(x, 3, 4, 35, 2);
        Checks.due("further on", x.next(3, 4, 3), true);
        Looks.foundIs(x, 5, 6, 0, 3);
        Checks.due("back", x.next(0, 0, 1), true);
        Looks.foundIs(x, 3, 4, 34, 1);
        Looks.foundIs(x, 3, 4, 34, 1);
    }

    private static void sizeAtTheEdges() {
        Checks.part("promise 16, 0 to 100 records");
        HistoricalTreeStore x = new HistoricalTreeStore();
        Checks.due("none", x.size(), 0);
        for (int i = 1; i <= 100; i++) {
            Checks.due("write", x.write(i, i, i), true);
            Checks.due("size", x.size(), i);
            if (i % 40 == 0) {
                x.commit();
            }
        }
        Checks.due("one more is refused", x.write(101, 101, 101), false);
        Checks.due("size", x.size(), 100);
        Checks.due("abort", x.abort(), 20);
        Checks.due("size", x.size(), 80);
    }

    private static void sizeOfEitherVolume() {
        Checks.part("promise 16, 'in the volume that questions go to'");
        HistoricalTreeStore x = new HistoricalTreeStore();
        Runs.fill(x, 0, 100);
        Looks.sizesAre(x, 100, 0);
        Checks.due("sync", x.sync(1), 1);
        Looks.sizesAre(x, 100, 1);
        Checks.due("sync", x.sync(50), 50);
        Looks.sizesAre(x, 100, 51);
        Checks.due("sync", x.sync(48), 48);
        Looks.sizesAre(x, 100, 99);
        Checks.due("sync", x.sync(50), 1);
        Looks.sizesAre(x, 100, 100);
    }

    private static void doneAtTheEdges() {
        Checks.part("promise 17, done");
        HistoricalTreeStore x = new HistoricalTreeStore();
        Checks.due("at first", x.done(), 0);
        Checks.due("write", x.write(1, 1, 1), true);
        Checks.due("not yet", x.done(), 0);
        Checks.due("commit", x.commit(), 1);
        Checks.due("now", x.done(), 1);
        Checks.due("write", x.write(1, 1, 2), true);
        Checks.due("not yet", x.done(), 1);
        Checks.due("abort", x.abort(), 1);
        Checks.due("taken back", x.done(), 1);
        Checks.due("commit of nothing", x.commit(), 1);
        Checks.due("the same", x.done(), 1);
        Checks.due("crash", x.crash(), 0);
        Checks.due("the same", x.done(), 1);
    }
}
