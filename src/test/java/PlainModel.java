import java.util.ArrayList;
import java.util.List;
import java.util.Set;
import java.util.TreeMap;
import java.util.TreeSet;

/**
 * The document's words once more, in a way as unlike the program's as it can be: records that are
 * never changed, in sorted maps, and a transaction that is taken back by putting an old copy back.
 */
final class PlainModel {
    record Name(int obj, int key, int born) implements Comparable<Name> {
        @Override
        public int compareTo(Name other) {
            if (obj != other.obj) {
                return Integer.compare(obj, other.obj);
            }
            return key != other.key ? Integer.compare(key, other.key)
                    : Integer.compare(born, other.born);
        }
    }

    record Life(int died, int value) {
    }

    private TreeMap<Name, Life> master = new TreeMap<>();
    private final TreeMap<Name, Life> mirror = new TreeMap<>();
    private TreeMap<Name, Life> masterAtStart = new TreeMap<>();
    private final Set<Integer> snapshots = new TreeSet<>();
    private int done = 0;
    private int accepted = 0;
    private int volume = 0;
    private int[] found = {0, 0, 0, 0};
    private int upTo = 0;
    private int goal = -1;
    private Name lastSent = null;

    boolean write(int obj, int key, int value) {
        Name own = new Name(obj, key, done + 1);
        boolean adds = !master.containsKey(own);
        if (accepted == 40 || (adds && master.size() == 100)) {
            return false;
        }
        Name old = visible(master, obj, key, done + 1);
        if (old != null && !old.equals(own)) {
            master.put(old, new Life(done + 1, master.get(old).value()));
        }
        master.put(own, new Life(0, value));
        accepted++;
        return true;
    }

    boolean remove(int obj, int key) {
        Name old = visible(master, obj, key, done + 1);
        if (old == null || accepted == 40) {
            return false;
        }
        master.put(old, new Life(done + 1, master.get(old).value()));
        accepted++;
        return true;
    }

    int commit() {
        if (accepted > 0) {
            int open = done + 1;
            master.entrySet().removeIf(
                    e -> e.getKey().born() == open && e.getValue().died() == open);
            done = open;
            accepted = 0;
            masterAtStart = new TreeMap<>(master);
        }
        return done;
    }

    int abort() {
        int answer = accepted;
        if (accepted > 0) {
            master = new TreeMap<>(masterAtStart);
        }
        accepted = 0;
        return answer;
    }

    int crash() {
        goal = -1;
        volume = 0;
        return abort();
    }

    boolean use(int which) {
        if (which == 0 || which == 1) {
            volume = which;
            return true;
        }
        return false;
    }

    boolean has(int obj, int key, int t) {
        return visible(asked(), obj, key, t) != null;
    }

    int read(int obj, int key, int t) {
        Name name = visible(asked(), obj, key, t);
        return name == null ? 0 : asked().get(name).value();
    }

    boolean next(int obj, int key, int t) {
        for (Name name : asked().tailMap(new Name(obj, key, Integer.MAX_VALUE), false).keySet()) {
            Life life = asked().get(name);
            if (isVisible(name, life, t)) {
                found = new int[] {name.obj(), name.key(), life.value(), name.born()};
                return true;
            }
        }
        return false;
    }

    int found(int which) {
        return which >= 0 && which <= 3 ? found[which] : 0;
    }

    boolean snapshot(int t) {
        if (t < 0 || t > done) {
            return false;
        }
        if (snapshots.remove(t)) {
            return true;
        }
        return snapshots.size() < 4 && snapshots.add(t);
    }

    int prune() {
        if (accepted > 0) {
            return -1;
        }
        List<Name> gone = new ArrayList<>();
        asked().forEach((name, life) -> {
            boolean ended = life.died() != 0 && life.died() <= done;
            boolean kept = snapshots.stream().anyMatch(s -> isVisible(name, life, s));
            if (ended && !kept && (volume == 1 || life.died() <= upTo)) {
                gone.add(name);
            }
        });
        gone.forEach(asked()::remove);
        if (volume == 0) {
            masterAtStart = new TreeMap<>(master);
        }
        return gone.size();
    }

    int sync(int n) {
        if (n < 1 || n > 50 || (goal < 0 && upTo == done)) {
            return -1;
        }
        if (goal < 0) {
            goal = done;
            lastSent = null;
        }
        List<Name> left = new ArrayList<>();
        master.forEach((name, life) -> {
            boolean isNew = name.born() >= upTo + 1 && name.born() <= goal;
            boolean hasEnded = name.born() <= upTo && life.died() >= upTo + 1 && life.died() <= goal;
            if ((isNew || hasEnded) && (lastSent == null || name.compareTo(lastSent) > 0)) {
                left.add(name);
            }
        });
        int sent = 0;
        while (sent < n && !left.isEmpty() && send(left.get(0))) {
            lastSent = left.remove(0);
            sent++;
        }
        if (left.isEmpty()) {
            upTo = goal;
            goal = -1;
        }
        return sent;
    }

    private boolean send(Name name) {
        Life life = master.get(name);
        int died = life.died() > goal ? 0 : life.died();
        if (mirror.containsKey(name)) {
            mirror.put(name, new Life(died, mirror.get(name).value()));
            return true;
        }
        if (mirror.size() == 100) {
            return false;
        }
        mirror.put(name, new Life(died, life.value()));
        return true;
    }

    int synced() {
        return isSyncing() ? upTo + 1000000 : upTo;
    }

    boolean isSyncing() {
        return goal >= 0;
    }

    int volume() {
        return volume;
    }

    int size() {
        return asked().size();
    }

    int done() {
        return done;
    }

    private TreeMap<Name, Life> asked() {
        return volume == 0 ? master : mirror;
    }

    private static boolean isVisible(Name name, Life life, int t) {
        return name.born() <= t && (life.died() == 0 || life.died() > t);
    }

    /** Stops the test if two are visible, because the document speaks of one. */
    private static Name visible(TreeMap<Name, Life> records, int obj, int key, int t) {
        Name one = null;
        for (Name name : records.keySet()) {
            if (name.obj() == obj && name.key() == key && isVisible(name, records.get(name), t)) {
                if (one != null) {
                    throw new IllegalStateException("two records are visible: " + one + name);
                }
                one = name;
            }
        }
        return one;
    }
}
