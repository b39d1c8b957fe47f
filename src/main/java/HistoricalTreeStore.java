/**
 * A store that keeps its history: every change leaves the older record behind, so that it can be
 * read as it was after any transaction.
 */
public final class HistoricalTreeStore {
    private static final int MASTER = 0;
    private static final int MIRROR = 1;
    private static final int VOLUMES = 2;
    private static final int ROOM = 100;
    private static final int SLOTS = 200;
    private static final int MOST_CHANGES = 40;
    private static final int MOST_SNAPSHOTS = 4;
    private static final int MOST_SENT = 50;
    private static final int UNDER_WAY = 1000000;
    private static final int FOUND_PARTS = 4;
    private static final int NOT_YET = 0;
    private static final int NONE = -1;
    private static final int REFUSED = -1;

    // One set of arrays serves both volumes, so that every search is written once: the master's
    // records stand from slot 0 on, the mirror's from slot ROOM on. Each volume's records stand
    // without a gap and in no order, so that one can be taken away by moving the last to its place.
    private final int[] objs = new int[SLOTS];
    private final int[] keys = new int[SLOTS];
    private final int[] borns = new int[SLOTS];
    private final int[] dieds = new int[SLOTS];
    private final int[] values = new int[SLOTS];
    private final int[] counts = new int[VOLUMES];

    private int lastDone = 0;
    private int changes = 0;
    private int asked = MASTER;

    private final int[] snapshots = new int[MOST_SNAPSHOTS];
    private int snapshotCount = 0;

    // A copy, because found tells of the latest next even when the record has changed or gone.
    private final int[] foundParts = new int[FOUND_PARTS];

    private int mirrorUpTo = 0;
    private boolean syncing = false;
    private int syncGoal = 0;

    // The record sent last is kept by what it is, not by its slot, because slots are moved.
    private boolean anySent = false;
    private int sentObj = 0;
    private int sentKey = 0;
    private int sentBorn = 0;

    public HistoricalTreeStore() {
    }

    public boolean write(int obj, int key, int value) {
        if (changes >= MOST_CHANGES) {
            return false;
        }
        int open = lastDone + 1;
        int own = slotBornAt(MASTER, obj, key, open);
        if (own != NONE) {
            values[own] = value;
            dieds[own] = NOT_YET;
        } else {
            if (counts[MASTER] >= ROOM) {
                return false;
            }
            endVisible(obj, key, open);
            addRecord(MASTER, obj, key, open, NOT_YET, value);
        }
        changes++;
        return true;
    }

    public boolean remove(int obj, int key) {
        if (changes >= MOST_CHANGES) {
            return false;
        }
        if (!endVisible(obj, key, lastDone + 1)) {
            return false;
        }
        changes++;
        return true;
    }

    public int commit() {
        if (changes == 0) {
            return lastDone;
        }
        int open = lastDone + 1;
        // Downwards, because the record moved into a freed slot has then been looked at already.
        for (int slot = counts[MASTER] - 1; slot >= 0; slot--) {
            if (borns[slot] == open && dieds[slot] == open) {
                takeAway(MASTER, slot);
            }
        }
        lastDone = open;
        changes = 0;
        return lastDone;
    }

    public int abort() {
        return undoChanges();
    }

    public int crash() {
        syncing = false;
        asked = MASTER;
        return undoChanges();
    }

    public boolean use(int volume) {
        if (volume != MASTER && volume != MIRROR) {
            return false;
        }
        asked = volume;
        return true;
    }

    public boolean has(int obj, int key, int t) {
        return slotVisibleAt(asked, obj, key, t) != NONE;
    }

    public int read(int obj, int key, int t) {
        int slot = slotVisibleAt(asked, obj, key, t);
        return slot == NONE ? 0 : values[slot];
    }

    public boolean next(int obj, int key, int t) {
        int best = NONE;
        int first = firstSlot(asked);
        int end = endSlot(asked);
        for (int slot = first; slot < end; slot++) {
            if (isVisible(slot, t) && isPastKey(slot, obj, key)
                    && (best == NONE || !isPastKey(slot, objs[best], keys[best]))) {
                best = slot;
            }
        }
        if (best == NONE) {
            return false;
        }
        foundParts[0] = objs[best];
        foundParts[1] = keys[best];
        foundParts[2] = values[best];
        foundParts[3] = borns[best];
        return true;
    }

    public int found(int which) {
        if (which < 0 || which >= FOUND_PARTS) {
            return 0;
        }
        return foundParts[which];
    }

    public boolean snapshot(int t) {
        if (t < 0 || t > lastDone) {
            return false;
        }
        for (int i = 0; i < snapshotCount; i++) {
            if (snapshots[i] == t) {
                snapshotCount--;
                snapshots[i] = snapshots[snapshotCount];
                return true;
            }
        }
        if (snapshotCount >= MOST_SNAPSHOTS) {
            return false;
        }
        snapshots[snapshotCount] = t;
        snapshotCount++;
        return true;
    }

    public int prune() {
        if (changes > 0) {
            return REFUSED;
        }
        // What the mirror has not been told of yet must stay in the master.
        int latestDeath = asked == MASTER ? mirrorUpTo : lastDone;
        int taken = 0;
        int first = firstSlot(asked);
        int end = endSlot(asked);
        for (int slot = end - 1; slot >= first; slot--) {
            if (dieds[slot] != NOT_YET && dieds[slot] <= latestDeath && !isInSnapshot(slot)) {
                takeAway(asked, slot);
                taken++;
            }
        }
        return taken;
    }

    public int sync(int n) {
        if (n < 1 || n > MOST_SENT) {
            return REFUSED;
        }
        if (!syncing) {
            if (mirrorUpTo >= lastDone) {
                return REFUSED;
            }
            syncing = true;
            syncGoal = lastDone;
            anySent = false;
        }
        int sent = 0;
        int slot = slotToSend();
        while (sent < n && slot != NONE && sendRecord(slot)) {
            sent++;
            slot = slotToSend();
        }
        if (slot == NONE) {
            syncing = false;
            mirrorUpTo = syncGoal;
        }
        return sent;
    }

    public int synced() {
        return syncing ? mirrorUpTo + UNDER_WAY : mirrorUpTo;
    }

    public int size() {
        return counts[asked];
    }

    public int done() {
        return lastDone;
    }

    private int firstSlot(int volume) {
        return volume == MASTER ? 0 : ROOM;
    }

    private int endSlot(int volume) {
        return firstSlot(volume) + counts[volume];
    }

    private boolean isVisible(int slot, int t) {
        return borns[slot] <= t && (dieds[slot] == NOT_YET || dieds[slot] > t);
    }

    private boolean isInSnapshot(int slot) {
        for (int i = 0; i < snapshotCount; i++) {
            if (isVisible(slot, snapshots[i])) {
                return true;
            }
        }
        return false;
    }

    private boolean isPastKey(int slot, int obj, int key) {
        return objs[slot] > obj || (objs[slot] == obj && keys[slot] > key);
    }

    private boolean isPastRecord(int slot, int obj, int key, int born) {
        return isPastKey(slot, obj, key)
                || (objs[slot] == obj && keys[slot] == key && borns[slot] > born);
    }

    private int slotVisibleAt(int volume, int obj, int key, int t) {
        int first = firstSlot(volume);
        int end = endSlot(volume);
        for (int slot = first; slot < end; slot++) {
            if (objs[slot] == obj && keys[slot] == key && isVisible(slot, t)) {
                return slot;
            }
        }
        return NONE;
    }

    private int slotBornAt(int volume, int obj, int key, int born) {
        int first = firstSlot(volume);
        int end = endSlot(volume);
        for (int slot = first; slot < end; slot++) {
            if (objs[slot] == obj && keys[slot] == key && borns[slot] == born) {
                return slot;
            }
        }
        return NONE;
    }

    private boolean endVisible(int obj, int key, int open) {
        int slot = slotVisibleAt(MASTER, obj, key, open);
        if (slot == NONE) {
            return false;
        }
        dieds[slot] = open;
        return true;
    }

    private boolean addRecord(int volume, int obj, int key, int born, int died, int value) {
        if (counts[volume] >= ROOM) {
            return false;
        }
        int slot = endSlot(volume);
        objs[slot] = obj;
        keys[slot] = key;
        borns[slot] = born;
        dieds[slot] = died;
        values[slot] = value;
        counts[volume]++;
        return true;
    }

    private void takeAway(int volume, int slot) {
        counts[volume]--;
        int last = endSlot(volume);
        objs[slot] = objs[last];
        keys[slot] = keys[last];
        borns[slot] = borns[last];
        dieds[slot] = dieds[last];
        values[slot] = values[last];
    }

    // No journal is needed: only the open transaction puts its number into a record, and what a
    // record of an earlier transaction lost to it can have been nothing but died 0.
    private int undoChanges() {
        int open = lastDone + 1;
        for (int slot = counts[MASTER] - 1; slot >= 0; slot--) {
            if (borns[slot] == open) {
                takeAway(MASTER, slot);
            } else if (dieds[slot] == open) {
                dieds[slot] = NOT_YET;
            }
        }
        int undone = changes;
        changes = 0;
        return undone;
    }

    private boolean isDue(int slot) {
        if (borns[slot] > mirrorUpTo) {
            return borns[slot] <= syncGoal;
        }
        return dieds[slot] > mirrorUpTo && dieds[slot] <= syncGoal;
    }

    private int slotToSend() {
        int best = NONE;
        int end = endSlot(MASTER);
        for (int slot = 0; slot < end; slot++) {
            if (isDue(slot) && (!anySent || isPastRecord(slot, sentObj, sentKey, sentBorn))
                    && (best == NONE
                    || !isPastRecord(slot, objs[best], keys[best], borns[best]))) {
                best = slot;
            }
        }
        return best;
    }

    private boolean sendRecord(int slot) {
        int died = dieds[slot] > syncGoal ? NOT_YET : dieds[slot];
        int twin = slotBornAt(MIRROR, objs[slot], keys[slot], borns[slot]);
        if (twin != NONE) {
            dieds[twin] = died;
        } else if (!addRecord(MIRROR, objs[slot], keys[slot], borns[slot], died, values[slot])) {
            return false;
        }
        anySent = true;
        sentObj = objs[slot];
        sentKey = keys[slot];
        sentBorn = borns[slot];
        return true;
    }
}
