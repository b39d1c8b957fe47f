/** Runs of calls with which several tests begin. */
final class Runs {
    private Runs() {
    }

    /** Transactions done + 1 and on, each of which writes its own number to (obj, key). */
    static void commitWrites(HistoricalTreeStore x, int obj, int key, int times) {
        for (int i = 0; i < times; i++) {
            int number = x.done() + 1;
            Checks.due("write to begin with", x.write(obj, key, number), true);
            Checks.due("commit to begin with", x.commit(), number);
        }
    }

    /** One transaction that writes the value to (obj, key). */
    static void commitWrite(HistoricalTreeStore x, int obj, int key, int value) {
        Checks.due("write to begin with", x.write(obj, key, value), true);
        commitChanges(x);
    }

    /** One transaction that removes (obj, key). */
    static void commitRemove(HistoricalTreeStore x, int obj, int key) {
        Checks.due("remove to begin with", x.remove(obj, key), true);
        commitChanges(x);
    }

    /** Transactions that leave no record behind, so that nothing but done grows. */
    static void commitNothing(HistoricalTreeStore x, int times) {
        for (int i = 0; i < times; i++) {
            Checks.due("write to begin with", x.write(-77, -77, 1), true);
            Checks.due("remove to begin with", x.remove(-77, -77), true);
            commitChanges(x);
        }
    }

    /** New records (obj, 0) with the value obj + 1, for obj from first to end - 1; forty a commit. */
    static void fill(HistoricalTreeStore x, int first, int end) {
        for (int obj = first; obj < end; obj++) {
            Checks.due("write to fill", x.write(obj, 0, obj + 1), true);
            if ((obj - first) % 40 == 39 || obj == end - 1) {
                x.commit();
            }
        }
    }

    /** Ends the records (obj, 0) for obj from first to end - 1; forty a commit. */
    static void endAll(HistoricalTreeStore x, int first, int end) {
        for (int obj = first; obj < end; obj++) {
            Checks.due("remove to end all", x.remove(obj, 0), true);
            if ((obj - first) % 40 == 39 || obj == end - 1) {
                x.commit();
            }
        }
    }

    /** Changes of the open transaction that leave its own record (obj, key) with the value times. */
    static void rewrite(HistoricalTreeStore x, int obj, int key, int times) {
        for (int i = 1; i <= times; i++) {
            Checks.due("change " + i, x.write(obj, key, i), true);
        }
    }

    /** A synchronisation that ends; the mirror has to have room. */
    static void syncAll(HistoricalTreeStore x) {
        x.sync(50);
        x.sync(50);
        x.sync(50);
        Checks.due("synchronised to begin with", x.synced(), x.done());
    }

    /**
     * A mirror with the given number of records, all of them ended, and a master with none: what a
     * test needs that comes to the mirror's limit before the master's. At most 80 records.
     */
    static void fillMirrorAlone(HistoricalTreeStore x, int records) {
        fill(x, 0, records);
        syncAll(x);
        endAll(x, 0, records);
        syncAll(x);
        Checks.due("prune to begin with", x.prune(), records);
    }

    private static void commitChanges(HistoricalTreeStore x) {
        int number = x.done() + 1;
        Checks.due("commit to begin with", x.commit(), number);
    }
}
