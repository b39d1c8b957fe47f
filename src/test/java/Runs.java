/** Runs of calls with which several tests begin. */
final class Runs {
    private Runs() {
    }

    /** Transactions done + 1 and on, each of which writes its own number to (obj, key). */
    static void commitWrites(HistoricalTreeStore x, int obj, int key, int times) {
        for (int i = 0; i < times; i++) {
            int number = x.done() + 1;
            Checks.due("write to begin with", x.write(obj, key, number), true);
            Checks.due("commit to begin with", x.commit(), number);
        }
    }

    /** New records (obj, 0) with the value obj + 1, for obj from first to end - 1; forty a commit. */
    static void fill(HistoricalTreeStore x, int first, int end) {
        for (int obj = first; obj < end; obj++) {
            Checks.due("write to fill", x.write(obj, 0, obj + 1), true);
            if ((obj - first) % 40 == 39 || obj == end - 1) {
                x.commit();
            }
        }
    }
}
