/** Looks at a record from all sides of the edges of its life. */
final class Looks {
    static final int LOW = Integer.MIN_VALUE;
    static final int HIGH = Integer.MAX_VALUE;
    static final int[] ODD_TIMES = {LOW, LOW + 1, -1, 0, HIGH - 1, HIGH};

    private Looks() {
    }

    /**
     * (obj, key) has the value from born to died - 1 and nothing at any other time; died 0 means
     * that it has no end. The key may have no other record.
     */
    static void lifeIs(HistoricalTreeStore x, int obj, int key, int value, int born, int died) {
        for (int t : ODD_TIMES) {
            lifeAt(x, obj, key, value, t, isWithin(t, born, died));
        }
        for (int t : new int[] {born - 1, born, born + 1, died - 1, died, died + 1}) {
            lifeAt(x, obj, key, value, t, isWithin(t, born, died));
        }
    }

    private static boolean isWithin(int t, int born, int died) {
        return t >= born && (died == 0 || t < died);
    }

    private static void lifeAt(HistoricalTreeStore x, int obj, int key, int value, int t,
            boolean there) {
        String what = "(" + obj + ", " + key + ") at " + t;
        Checks.due("has " + what, x.has(obj, key, t), there);
        Checks.due("read " + what, x.read(obj, key, t), there ? value : 0);
    }

    static void foundIs(HistoricalTreeStore x, int obj, int key, int value, int born) {
        Checks.due("found obj", x.found(0), obj);
        Checks.due("found key", x.found(1), key);
        Checks.due("found value", x.found(2), value);
        Checks.due("found born", x.found(3), born);
    }

    /** The sizes of master and mirror; questions go to the master afterwards. */
    static void sizesAre(HistoricalTreeStore x, int master, int mirror) {
        Checks.due("use 1", x.use(1), true);
        Checks.due("size of the mirror", x.size(), mirror);
        Checks.due("use 0", x.use(0), true);
        Checks.due("size of the master", x.size(), master);
    }
}
