/** The edges that the document's head, its terms and promise 1 name; one test to a sentence. */
public final class TermsEdgesTest {
    private static final int LOW = Looks.LOW;
    private static final int HIGH = Looks.HIGH;
    private static final int[] ANY_INTS = {LOW, LOW + 1, -1, 0, 1, HIGH - 1, HIGH};

    public static void main(String[] args) {
        callsUpToTheLast();
        historyUpToTheLastCall();
        twoVolumes();
        anyInts();
        diedZeroMeansNotYet();
        visibleFromBornOn();
        visibleUntilDied();
        visibleForOneTransactionOnly();
        openTransactionIsDonePlusOne();
        changesAreMadeToTheMasterAlone();
        newObjectsFirstAnswers();
        newObjectsVolumesAreEmpty();
        newObjectHasNoSnapshots();
        newObjectHasNoSync();
        newObjectAsksTheMaster();
        newObjectsAreApart();
        Checks.finish();
    }

    private static void callsUpToTheLast() {
        Checks.part("'used for at most 512 calls': transactions");
        HistoricalTreeStore x = new HistoricalTreeStore();
        for (int i = 1; i <= 170; i++) {
            Checks.due("write " + i, x.write(i, -i, i), true);
            Checks.due("remove " + i, x.remove(i, -i), true);
            Checks.due("commit " + i, x.commit(), i);
        }
        Checks.due("call 511, size", x.size(), 0);
        Checks.due("call 512, done", x.done(), 170);
    }

    private static void historyUpToTheLastCall() {
        Checks.part("'used for at most 512 calls': history");
        HistoricalTreeStore x = new HistoricalTreeStore();
        for (int i = 1; i <= 100; i++) {
            Checks.due("write " + i, x.write(1, 1, -i), true);
            Checks.due("commit " + i, x.commit(), i);
        }
        Checks.due("sync", x.sync(50), 50);
        Checks.due("sync", x.sync(50), 50);
        for (int t = 0; t <= 101; t++) {
            Checks.due("read at " + t, x.read(1, 1, t), -Math.min(t, 100));
            Checks.due("next at " + t, x.next(1, 0, t), t > 0);
            Checks.due("found born at " + t, x.found(3), Math.min(t, 100));
        }
        Checks.due("prune", x.prune(), 99);
        Checks.due("size", x.size(), 1);
        Checks.due("use", x.use(1), true);
        Checks.due("call 512, size", x.size(), 100);
    }

    private static void twoVolumes() {
        Checks.part("'two volumes, 0 the master and 1 the mirror'");
        HistoricalTreeStore x = new HistoricalTreeStore();
        Checks.due("volume -1", x.use(-1), false);
        Checks.due("volume 0", x.use(0), true);
        Checks.due("volume 1", x.use(1), true);
        Checks.due("volume 2", x.use(2), false);
        Runs.commitWrites(x, 3, 3, 1);
        Checks.due("the mirror has nothing", x.size(), 0);
        Checks.due("volume 0", x.use(0), true);
        Checks.due("the master has the record", x.size(), 1);
    }

    private static void anyInts() {
        Checks.part("'obj, key, value any ints'");
        HistoricalTreeStore x = new HistoricalTreeStore();
        for (int at : ANY_INTS) {
            Checks.due("write " + at, x.write(at, -at, at), true);
            Checks.due("write beside " + at, x.write(at, 5, ~at), true);
        }
        Checks.due("commit", x.commit(), 1);
        Runs.syncAll(x);
        for (int volume = 0; volume <= 1; volume++) {
            Checks.due("use", x.use(volume), true);
            Checks.due("size", x.size(), 14);
            for (int at : ANY_INTS) {
                Checks.due("has " + at, x.has(at, -at, 1), true);
                Checks.due("read " + at, x.read(at, -at, 1), at);
                Checks.due("read beside " + at, x.read(at, 5, 1), ~at);
                Checks.due("no such key", x.has(at, 6, 1), false);
            }
        }
        for (int at : ANY_INTS) {
            Checks.due("remove " + at, x.remove(at, -at), true);
            Checks.due("gone " + at, x.remove(at, -at), false);
        }
    }

    private static void diedZeroMeansNotYet() {
        Checks.part("'died 0 means not yet'");
        HistoricalTreeStore x = new HistoricalTreeStore();
        Runs.commitWrite(x, 4, 5, 6);
        Looks.lifeIs(x, 4, 5, 6, 1, 0);
        Runs.commitNothing(x, 20);
        Looks.lifeIs(x, 4, 5, 6, 1, 0);
        Runs.syncAll(x);
        Checks.due("prune", x.prune(), 0);
        Checks.due("use", x.use(1), true);
        Looks.lifeIs(x, 4, 5, 6, 1, 0);
        Checks.due("prune", x.prune(), 0);
    }

    private static void visibleFromBornOn() {
        Checks.part("'visible at t if born <= t'");
        HistoricalTreeStore x = new HistoricalTreeStore();
        Runs.commitNothing(x, 4);
        Runs.commitWrite(x, 1, 1, 55);
        Runs.commitNothing(x, 3);
        for (int volume = 0; volume <= 1; volume++) {
            Runs.syncAll(x);
            Checks.due("use", x.use(volume), true);
            Looks.lifeIs(x, 1, 1, 55, 5, 0);
            Checks.due("next just before", x.next(1, 0, 4), false);
            Checks.due("next at born", x.next(1, 0, 5), true);
            Checks.due("next just after", x.next(1, 0, 6), true);
        }
    }

    private static void visibleUntilDied() {
        Checks.part("'and (died is 0 or died > t)'");
        HistoricalTreeStore x = new HistoricalTreeStore();
        Runs.commitNothing(x, 2);
        Runs.commitWrite(x, 1, 1, 55);
        Runs.commitNothing(x, 3);
        Runs.commitRemove(x, 1, 1);
        Runs.commitNothing(x, 3);
        for (int volume = 0; volume <= 1; volume++) {
            Runs.syncAll(x);
            Checks.due("use", x.use(volume), true);
            Looks.lifeIs(x, 1, 1, 55, 3, 7);
            Checks.due("next just before", x.next(1, 0, 6), true);
            Checks.due("next at died", x.next(1, 0, 7), false);
            Checks.due("next just after", x.next(1, 0, 8), false);
        }
    }

    private static void visibleForOneTransactionOnly() {
        Checks.part("'visible', born and died one apart");
        HistoricalTreeStore x = new HistoricalTreeStore();
        Runs.commitNothing(x, 1);
        Runs.commitWrite(x, 1, 1, 55);
        Runs.commitRemove(x, 1, 1);
        Looks.lifeIs(x, 1, 1, 55, 2, 3);
        Checks.due("born and died alike: write", x.write(2, 2, 66), true);
        Checks.due("born and died alike: remove", x.remove(2, 2), true);
        for (int t : new int[] {LOW, 0, 3, 4, 5, HIGH}) {
            Checks.due("visible at no time, " + t, x.has(2, 2, t), false);
        }
        Checks.due("and yet a record", x.size(), 2);
    }

    private static void openTransactionIsDonePlusOne() {
        Checks.part("'the open transaction has the number done + 1'");
        HistoricalTreeStore x = new HistoricalTreeStore();
        for (int number = 1; number <= 3; number++) {
            Checks.due("done", x.done(), number - 1);
            Checks.due("write", x.write(number, 0, 9), true);
            Checks.due("not at done", x.has(number, 0, number - 1), false);
            Checks.due("at done + 1", x.has(number, 0, number), true);
            Checks.due("next", x.next(number, -1, number), true);
            Checks.due("born", x.found(3), number);
            Checks.due("commit", x.commit(), number);
            Checks.due("the same after commit", x.has(number, 0, number - 1), false);
            Checks.due("the same after commit", x.has(number, 0, number), true);
        }
    }

    private static void changesAreMadeToTheMasterAlone() {
        Checks.part("'changes are made to the master alone'");
        HistoricalTreeStore x = new HistoricalTreeStore();
        Runs.commitWrite(x, 1, 1, 10);
        Runs.syncAll(x);
        Checks.due("use", x.use(1), true);
        Checks.due("write", x.write(1, 1, 11), true);
        Checks.due("write", x.write(2, 2, 12), true);
        Checks.due("mirror as before", x.read(1, 1, 2), 10);
        Checks.due("mirror as before", x.has(2, 2, 2), false);
        Checks.due("commit", x.commit(), 2);
        Checks.due("mirror as before", x.read(1, 1, 2), 10);
        Checks.due("remove", x.remove(1, 1), true);
        Checks.due("mirror as before", x.read(1, 1, 3), 10);
        Checks.due("abort", x.abort(), 1);
        Checks.due("mirror as before", x.size(), 1);
        Checks.due("use", x.use(0), true);
        Checks.due("master", x.read(1, 1, 2), 11);
        Checks.due("master", x.read(2, 2, 2), 12);
        Checks.due("master", x.size(), 3);
    }

    private static void newObjectsFirstAnswers() {
        Checks.part("promise 1, the first call");
        Checks.due("write", fresh().write(0, 0, 0), true);
        Checks.due("remove", fresh().remove(0, 0), false);
        Checks.due("commit", fresh().commit(), 0);
        Checks.due("abort", fresh().abort(), 0);
        Checks.due("crash", fresh().crash(), 0);
        Checks.due("use 0", fresh().use(0), true);
        Checks.due("use 1", fresh().use(1), true);
        Checks.due("snapshot 0", fresh().snapshot(0), true);
        Checks.due("snapshot 1", fresh().snapshot(1), false);
        Checks.due("snapshot -1", fresh().snapshot(-1), false);
        Checks.due("prune", fresh().prune(), 0);
        Checks.due("sync 1", fresh().sync(1), -1);
        Checks.due("sync 50", fresh().sync(50), -1);
        Checks.due("synced", fresh().synced(), 0);
        Checks.due("size", fresh().size(), 0);
        Checks.due("done", fresh().done(), 0);
        for (int which = -1; which <= 4; which++) {
            Checks.due("found " + which, fresh().found(which), 0);
        }
    }

    private static void newObjectsVolumesAreEmpty() {
        Checks.part("promise 1, 'both volumes empty'");
        for (int volume = 0; volume <= 1; volume++) {
            HistoricalTreeStore x = fresh();
            Checks.due("use", x.use(volume), true);
            Checks.due("size", x.size(), 0);
            Checks.due("prune", x.prune(), 0);
            for (int t : Looks.ODD_TIMES) {
                Checks.due("has at " + t, x.has(0, 0, t), false);
                Checks.due("read at " + t, x.read(0, 0, t), 0);
                Checks.due("next at " + t, x.next(LOW, LOW, t), false);
                Checks.due("next of -1 at " + t, x.next(-1, -1, t), false);
            }
        }
    }

    private static void newObjectHasNoSnapshots() {
        Checks.part("promise 1, 'no snapshots'");
        HistoricalTreeStore x = fresh();
        Runs.commitWrites(x, 1, 1, 5);
        Runs.commitRemove(x, 1, 1);
        Runs.syncAll(x);
        Checks.due("none keeps a record", x.prune(), 5);
        Checks.due("the first is one more", x.snapshot(0), true);
        Checks.due("the second", x.snapshot(1), true);
        Checks.due("the third", x.snapshot(2), true);
        Checks.due("the fourth", x.snapshot(3), true);
        Checks.due("the fifth", x.snapshot(4), false);
    }

    private static void newObjectHasNoSync() {
        Checks.part("promise 1, 'no synchronisation under way, the mirror synchronised up to 0'");
        HistoricalTreeStore x = fresh();
        Checks.due("synced", x.synced(), 0);
        Checks.due("sync", x.sync(1), -1);
        Runs.commitWrites(x, 1, 1, 1);
        Checks.due("synced", x.synced(), 0);
        Checks.due("the first record has not been sent", x.sync(1), 1);
        Checks.due("synced", x.synced(), 1);
    }

    private static void newObjectAsksTheMaster() {
        Checks.part("promise 1, 'questions go to volume 0'");
        HistoricalTreeStore x = fresh();
        Checks.due("write", x.write(1, 2, 3), true);
        Checks.due("size", x.size(), 1);
        Checks.due("has", x.has(1, 2, 1), true);
        Checks.due("read", x.read(1, 2, 1), 3);
        Checks.due("next", x.next(1, 1, 1), true);
    }

    private static void newObjectsAreApart() {
        Checks.part("promise 1, two objects");
        HistoricalTreeStore used = fresh();
        Runs.commitWrites(used, 1, 1, 3);
        used.sync(1);
        used.use(1);
        used.snapshot(1);
        used.next(LOW, LOW, 1);
        HistoricalTreeStore x = fresh();
        Checks.due("done", x.done(), 0);
        Checks.due("synced", x.synced(), 0);
        Checks.due("found", x.found(0), 0);
        Looks.sizesAre(x, 0, 0);
        Runs.commitWrites(x, 2, 2, 1);
        Checks.due("the other's done", used.done(), 3);
        Checks.due("the other's size", used.size(), 1);
        Checks.due("the other's records", used.has(2, 2, 1), false);
    }

    private static HistoricalTreeStore fresh() {
        return new HistoricalTreeStore();
    }
}
