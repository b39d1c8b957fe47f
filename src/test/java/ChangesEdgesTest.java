/** The edges that promises 2 and 3, write and remove, name; one test to a sentence. */
public final class ChangesEdgesTest {
    public static void main(String[] args) {
        writeToOwnRecord();
        writeToARecordOfTheTransactionBefore();
        writeEndsTheVisibleOne();
        writeWithNoneVisible();
        writeBringsOwnRecordBack();
        writeBringsBackOverAnOlderOne();
        writeAfterRemovingAnOlderOne();
        writeAtForty();
        writeAtFortyTouchesNothing();
        refusedOnesAreNotCounted();
        fortyAnewInEachTransaction();
        writeAtAHundred();
        writeAtAHundredTouchesNothing();
        writeAtAHundredThatAddsNothing();
        historyFillsTheMaster();
        roomAfterPrune();
        roomAfterAbortAndCrash();
        roomAfterCommitOfWhatWasNeverSeen();
        noRoomByRemoving();
        theMirrorTakesNoRoom();
        writeAtFortyAndAHundred();
        removeEndsAtDonePlusOne();
        removeWithNoneVisible();
        removeLooksAtTheMaster();
        removeOfOwnRecord();
        removeAtForty();
        removeInAFullMaster();
        Checks.finish();
    }

    private static void writeToOwnRecord() {
        Checks.part("promise 2, 'born done + 1 and died 0, that gets the new value'");
        HistoricalTreeStore x = new HistoricalTreeStore();
        Runs.commitWrite(x, 1, 1, 10);
        Checks.due("first write", x.write(1, 1, 20), true);
        Checks.due("size", x.size(), 2);
        for (int value = 21; value <= 23; value++) {
            Checks.due("write again", x.write(1, 1, value), true);
            Checks.due("size stays", x.size(), 2);
            Checks.due("at done + 1", x.read(1, 1, 2), value);
            Checks.due("at done", x.read(1, 1, 1), 10);
        }
        Checks.due("a change each", x.abort(), 4);
    }

    private static void writeToARecordOfTheTransactionBefore() {
        Checks.part("promise 2, a record born done is not one born done + 1");
        HistoricalTreeStore x = new HistoricalTreeStore();
        Runs.commitWrite(x, 1, 1, 10);
        Checks.due("write", x.write(1, 1, 11), true);
        Checks.due("a record is added", x.size(), 2);
        Checks.due("the older keeps its value", x.read(1, 1, 1), 10);
        Checks.due("commit", x.commit(), 2);
        Checks.due("write the same value", x.write(1, 1, 11), true);
        Checks.due("a record is added all the same", x.size(), 3);
        Checks.due("next", x.next(1, 0, 3), true);
        Looks.foundIs(x, 1, 1, 11, 3);
        Checks.due("next at done", x.next(1, 0, 2), true);
        Looks.foundIs(x, 1, 1, 11, 2);
    }

    private static void writeEndsTheVisibleOne() {
        Checks.part("promise 2, 'visible at done + 1 gets died done + 1'");
        HistoricalTreeStore x = new HistoricalTreeStore();
        Runs.commitWrite(x, 1, 1, 10);
        Runs.commitNothing(x, 2);
        Checks.due("write", x.write(1, 1, 40), true);
        Checks.due("the older at done", x.read(1, 1, 3), 10);
        Checks.due("the newer at done + 1", x.read(1, 1, 4), 40);
        Checks.due("another key", x.write(1, 2, 41), true);
        Checks.due("another obj", x.write(2, 1, 42), true);
        Checks.due("neither ends it", x.read(1, 1, 4), 40);
        Checks.due("remove the newer", x.remove(1, 1), true);
        Checks.due("the older has ended", x.has(1, 1, 4), false);
        Checks.due("the older at done", x.read(1, 1, 3), 10);
    }

    private static void writeWithNoneVisible() {
        Checks.part("promise 2, '(if there is one)'");
        HistoricalTreeStore x = new HistoricalTreeStore();
        Checks.due("never written", x.write(1, 1, 10), true);
        Checks.due("size", x.size(), 1);
        Checks.due("commit", x.commit(), 1);
        Runs.commitRemove(x, 1, 1);
        Runs.commitNothing(x, 1);
        Checks.due("removed two transactions ago", x.write(1, 1, 40), true);
        Checks.due("size", x.size(), 2);
        Checks.due("the older's end stays", x.read(1, 1, 1), 10);
        Checks.due("the older's end stays", x.has(1, 1, 2), false);
        Checks.due("between", x.has(1, 1, 3), false);
        Checks.due("now", x.read(1, 1, 4), 40);
        Checks.due("abort", x.abort(), 1);
        Checks.due("the older's end stays", x.has(1, 1, 2), false);
        Checks.due("the older's end stays", x.has(1, 1, 4), false);
    }

    private static void writeBringsOwnRecordBack() {
        Checks.part("promise 2, 'born done + 1 already .., that gets the value and died 0'");
        HistoricalTreeStore x = new HistoricalTreeStore();
        for (int round = 0; round < 3; round++) {
            Checks.due("write", x.write(1, 1, 10 + round), true);
            Checks.due("size", x.size(), 1);
            Checks.due("there", x.read(1, 1, 1), 10 + round);
            Checks.due("remove", x.remove(1, 1), true);
            Checks.due("size", x.size(), 1);
            Checks.due("gone", x.has(1, 1, 1), false);
        }
        Checks.due("write", x.write(1, 1, 99), true);
        Checks.due("commit", x.commit(), 1);
        Looks.lifeIs(x, 1, 1, 99, 1, 0);
        Checks.due("size", x.size(), 1);
    }

    private static void writeBringsBackOverAnOlderOne() {
        Checks.part("promise 2, own record comes back over an older one");
        HistoricalTreeStore x = new HistoricalTreeStore();
        Runs.commitWrite(x, 1, 1, 10);
        Checks.due("write", x.write(1, 1, 20), true);
        Checks.due("remove", x.remove(1, 1), true);
        Checks.due("the older does not come back", x.has(1, 1, 2), false);
        Checks.due("write", x.write(1, 1, 21), true);
        Checks.due("write", x.write(1, 1, 22), true);
        Checks.due("size", x.size(), 2);
        Checks.due("commit", x.commit(), 2);
        Checks.due("size", x.size(), 2);
        Checks.due("older", x.read(1, 1, 1), 10);
        Checks.due("newer", x.read(1, 1, 2), 22);
        Checks.due("remove", x.remove(1, 1), true);
        Checks.due("nothing below it", x.has(1, 1, 3), false);
    }

    private static void writeAfterRemovingAnOlderOne() {
        Checks.part("promise 2, the older one was removed in this transaction");
        HistoricalTreeStore x = new HistoricalTreeStore();
        Runs.commitWrite(x, 1, 1, 10);
        Checks.due("remove", x.remove(1, 1), true);
        Checks.due("write", x.write(1, 1, 20), true);
        Checks.due("a record is added", x.size(), 2);
        Checks.due("at done", x.read(1, 1, 1), 10);
        Checks.due("at done + 1", x.read(1, 1, 2), 20);
        Checks.due("commit", x.commit(), 2);
        Checks.due("at 1", x.read(1, 1, 1), 10);
        Checks.due("at 2", x.read(1, 1, 2), 20);
        Checks.due("size", x.size(), 2);
    }

    private static void writeAtForty() {
        Checks.part("promise 2, 'false if 40 changes were accepted'");
        HistoricalTreeStore x = new HistoricalTreeStore();
        for (int i = 1; i <= 39; i++) {
            Checks.due("change " + i, x.write(i, 0, i), true);
        }
        Checks.due("change 40", x.write(40, 0, 40), true);
        Checks.due("change 41", x.write(41, 0, 41), false);
        Checks.due("change 41 again", x.write(42, 0, 42), false);
        Checks.due("size", x.size(), 40);
        Checks.due("accepted", x.abort(), 40);

        Runs.rewrite(x, 1, 1, 39);
        Checks.due("change 40 of one key", x.write(1, 1, 40), true);
        Checks.due("change 41 of one key", x.write(1, 1, 41), false);
        Checks.due("accepted", x.abort(), 40);

        for (int i = 1; i <= 20; i++) {
            Checks.due("write, a change", x.write(1, 1, i), true);
            Checks.due("remove, a change", x.remove(1, 1), true);
        }
        Checks.due("change 41 after writes and removes", x.write(1, 1, 41), false);
        Checks.due("accepted", x.abort(), 40);
    }

    private static void writeAtFortyTouchesNothing() {
        Checks.part("promise 2, 40 changes, 'changing nothing'");
        HistoricalTreeStore x = new HistoricalTreeStore();
        Runs.commitWrite(x, 1, 1, 10);
        Checks.due("an own ended record", x.write(2, 2, 20), true);
        Checks.due("an own ended record", x.remove(2, 2), true);
        Runs.rewrite(x, 3, 3, 38);
        Checks.due("own record", x.write(3, 3, 99), false);
        Checks.due("own record's value", x.read(3, 3, 2), 38);
        Checks.due("own ended record", x.write(2, 2, 99), false);
        Checks.due("it does not come back", x.has(2, 2, 2), false);
        Checks.due("an older record", x.write(1, 1, 99), false);
        Checks.due("it is not ended", x.read(1, 1, 2), 10);
        Checks.due("a new key", x.write(4, 4, 99), false);
        Checks.due("it is not there", x.has(4, 4, 2), false);
        Checks.due("size", x.size(), 3);
        Checks.due("commit", x.commit(), 2);
        Checks.due("size without the ended one", x.size(), 2);
        Checks.due("own value", x.read(3, 3, 2), 38);
        Checks.due("old value", x.read(1, 1, 2), 10);
    }

    private static void refusedOnesAreNotCounted() {
        Checks.part("promise 2, only accepted changes count");
        HistoricalTreeStore x = new HistoricalTreeStore();
        for (int i = 0; i < 50; i++) {
            Checks.due("a refused remove", x.remove(1, 1), false);
        }
        Runs.rewrite(x, 1, 1, 40);
        Checks.due("change 41", x.write(1, 1, 41), false);
        Checks.due("accepted", x.abort(), 40);

        Runs.fill(x, 0, 100);
        for (int i = 0; i < 50; i++) {
            Checks.due("a write that finds no room", x.write(500, 0, 1), false);
        }
        for (int i = 0; i < 40; i++) {
            Checks.due("a change all the same", x.remove(i, 0), true);
        }
        Checks.due("change 41", x.remove(40, 0), false);
    }

    private static void fortyAnewInEachTransaction() {
        Checks.part("promise 2, 'in this transaction'");
        HistoricalTreeStore x = new HistoricalTreeStore();
        Runs.rewrite(x, 1, 1, 40);
        Checks.due("change 41", x.write(1, 1, 41), false);
        Checks.due("commit", x.commit(), 1);
        Runs.rewrite(x, 1, 1, 40);
        Checks.due("change 41", x.write(1, 1, 41), false);
        Checks.due("abort", x.abort(), 40);
        Runs.rewrite(x, 1, 1, 40);
        Checks.due("change 41", x.write(1, 1, 41), false);
        Checks.due("crash", x.crash(), 40);
        Runs.rewrite(x, 1, 1, 39);
        Checks.due("a question between", x.read(1, 1, 2), 39);
        Checks.due("use between", x.use(1), true);
        Checks.due("sync between", x.sync(1), 1);
        Checks.due("snapshot between", x.snapshot(1), true);
        Checks.due("a refused prune between", x.prune(), -1);
        Checks.due("change 40", x.write(1, 1, 40), true);
        Checks.due("change 41", x.write(1, 1, 41), false);
    }

    private static void writeAtAHundred() {
        Checks.part("promise 2, 'a record would be added while the master has 100'");
        HistoricalTreeStore x = new HistoricalTreeStore();
        Runs.fill(x, 0, 98);
        Checks.due("at 98", x.write(200, 0, 1), true);
        Checks.due("at 99", x.write(201, 0, 1), true);
        Checks.due("size", x.size(), 100);
        Checks.due("at 100", x.write(202, 0, 1), false);
        Checks.due("size", x.size(), 100);
        Checks.due("commit", x.commit(), 4);
        Checks.due("at 100, in the next transaction", x.write(202, 0, 1), false);
        Checks.due("no change was accepted", x.commit(), 4);
        Checks.due("size", x.size(), 100);
    }

    private static void writeAtAHundredTouchesNothing() {
        Checks.part("promise 2, 100 records, 'changing nothing'");
        HistoricalTreeStore x = new HistoricalTreeStore();
        Runs.fill(x, 0, 100);
        Checks.due("an older record", x.write(7, 0, 99), false);
        Checks.due("is not ended at done + 1", x.read(7, 0, 4), 8);
        Checks.due("a removed one: remove", x.remove(8, 0), true);
        Checks.due("a removed one: write", x.write(8, 0, 99), false);
        Checks.due("does not come back", x.has(8, 0, 4), false);
        Checks.due("a new key", x.write(500, 0, 99), false);
        Checks.due("is not there", x.has(500, 0, 4), false);
        Checks.due("size", x.size(), 100);
        Checks.due("only the remove counts", x.abort(), 1);
        Checks.due("as before", x.read(7, 0, 4), 8);
        Checks.due("as before", x.read(8, 0, 4), 9);
    }

    private static void writeAtAHundredThatAddsNothing() {
        Checks.part("promise 2, 100 records and none added");
        HistoricalTreeStore x = new HistoricalTreeStore();
        Runs.fill(x, 0, 98);
        Checks.due("own, over an older one", x.write(0, 0, 50), true);
        Checks.due("own, new", x.write(500, 0, 51), true);
        Checks.due("size", x.size(), 100);
        Checks.due("own record gets a value", x.write(500, 0, 52), true);
        Checks.due("own record is removed", x.remove(500, 0), true);
        Checks.due("own ended record comes back", x.write(500, 0, 53), true);
        Checks.due("own over an older one", x.write(0, 0, 54), true);
        Checks.due("own over an older one is removed", x.remove(0, 0), true);
        Checks.due("and comes back", x.write(0, 0, 55), true);
        Checks.due("size", x.size(), 100);
        Checks.due("commit", x.commit(), 4);
        Checks.due("read", x.read(500, 0, 4), 53);
        Checks.due("read", x.read(0, 0, 4), 55);
        Checks.due("read the older", x.read(0, 0, 3), 1);
    }

    private static void historyFillsTheMaster() {
        Checks.part("promise 2, ended records count");
        HistoricalTreeStore x = new HistoricalTreeStore();
        Runs.commitWrites(x, 1, 1, 99);
        Checks.due("at 99", x.write(1, 1, 100), true);
        Checks.due("commit", x.commit(), 100);
        Checks.due("size", x.size(), 100);
        Checks.due("at 100", x.write(1, 1, 101), false);
        Checks.due("the newest lives", x.read(1, 1, 101), 100);
        Checks.due("commit", x.commit(), 100);
        Checks.due("the oldest", x.read(1, 1, 1), 1);
    }

    private static void roomAfterPrune() {
        Checks.part("promise 2, room after prune");
        HistoricalTreeStore x = new HistoricalTreeStore();
        Runs.fill(x, 0, 100);
        Runs.commitRemove(x, 50, 0);
        Checks.due("at 100", x.write(500, 0, 1), false);
        Checks.due("sync", x.sync(50), 50);
        Checks.due("sync", x.sync(50), 50);
        Checks.due("synced", x.synced(), 4);
        Checks.due("prune", x.prune(), 1);
        Checks.due("at 99", x.write(500, 0, 1), true);
        Checks.due("at 100", x.write(501, 0, 1), false);
    }

    private static void roomAfterAbortAndCrash() {
        Checks.part("promise 2, room after abort and crash");
        HistoricalTreeStore x = new HistoricalTreeStore();
        Runs.fill(x, 0, 99);
        Checks.due("at 99", x.write(500, 0, 1), true);
        Checks.due("at 100", x.write(501, 0, 1), false);
        Checks.due("abort", x.abort(), 1);
        Checks.due("at 99", x.write(501, 0, 1), true);
        Checks.due("at 100", x.write(500, 0, 1), false);
        Checks.due("crash", x.crash(), 1);
        Checks.due("at 99", x.write(0, 0, 5), true);
        Checks.due("at 100", x.write(500, 0, 1), false);
        Checks.due("size", x.size(), 100);
    }

    private static void roomAfterCommitOfWhatWasNeverSeen() {
        Checks.part("promise 2, room after a commit that takes records away");
        HistoricalTreeStore x = new HistoricalTreeStore();
        Runs.fill(x, 0, 99);
        Checks.due("at 99", x.write(500, 0, 1), true);
        Checks.due("remove", x.remove(500, 0), true);
        Checks.due("it keeps its room until commit", x.write(501, 0, 1), false);
        Checks.due("commit", x.commit(), 4);
        Checks.due("at 99", x.write(501, 0, 1), true);
        Checks.due("at 100", x.write(502, 0, 1), false);
    }

    private static void noRoomByRemoving() {
        Checks.part("promise 2, a removed record keeps its room");
        HistoricalTreeStore x = new HistoricalTreeStore();
        Runs.fill(x, 0, 100);
        Checks.due("remove", x.remove(0, 0), true);
        Checks.due("at 100", x.write(500, 0, 1), false);
        Checks.due("commit", x.commit(), 4);
        Checks.due("at 100", x.write(500, 0, 1), false);
        Checks.due("at 100, the removed key", x.write(0, 0, 1), false);
        Checks.due("size", x.size(), 100);
    }

    private static void theMirrorTakesNoRoom() {
        Checks.part("promise 2, 'while the master has 100'");
        HistoricalTreeStore x = new HistoricalTreeStore();
        Runs.fillMirrorAlone(x, 80);
        Runs.fill(x, 100, 140);
        Checks.due("sync", x.sync(50), 20);
        Looks.sizesAre(x, 40, 100);
        Checks.due("use", x.use(1), true);
        Checks.due("a full mirror refuses no write", x.write(500, 0, 1), true);
        Checks.due("nor a remove", x.remove(500, 0), true);
        Runs.rewrite(x, 100, 0, 38);
        Checks.due("accepted", x.abort(), 40);
    }

    private static void writeAtFortyAndAHundred() {
        Checks.part("promise 2, both limits at once");
        HistoricalTreeStore x = new HistoricalTreeStore();
        Runs.fill(x, 0, 60);
        for (int i = 100; i < 139; i++) {
            Checks.due("write", x.write(i, 0, 1), true);
        }
        Checks.due("record 100 is change 40", x.write(139, 0, 1), true);
        Checks.due("record 101, change 41", x.write(140, 0, 1), false);
        Checks.due("own record, change 41", x.write(139, 0, 2), false);
        Checks.due("value", x.read(139, 0, 3), 1);
        Checks.due("commit", x.commit(), 3);
        Checks.due("record 101, change 1", x.write(140, 0, 1), false);
        Checks.due("size", x.size(), 100);
        Checks.due("accepted", x.abort(), 0);
    }

    private static void removeEndsAtDonePlusOne() {
        Checks.part("promise 3, 'visible at done + 1 gets died done + 1'");
        HistoricalTreeStore x = new HistoricalTreeStore();
        Runs.commitNothing(x, 1);
        Runs.commitWrite(x, 1, 1, 10);
        Runs.commitNothing(x, 2);
        Checks.due("remove", x.remove(1, 1), true);
        Looks.lifeIs(x, 1, 1, 10, 2, 5);
        Checks.due("the record stays", x.size(), 1);
        Checks.due("commit", x.commit(), 5);
        Looks.lifeIs(x, 1, 1, 10, 2, 5);
        Checks.due("the record stays", x.size(), 1);
    }

    private static void removeWithNoneVisible() {
        Checks.part("promise 3, 'false, changing nothing, if there is none'");
        HistoricalTreeStore x = new HistoricalTreeStore();
        Checks.due("empty", x.remove(0, 0), false);
        Checks.due("nothing was accepted", x.commit(), 0);
        Runs.commitWrite(x, 1, 1, 10);
        Checks.due("key below", x.remove(1, 0), false);
        Checks.due("key above", x.remove(1, 2), false);
        Checks.due("obj below", x.remove(0, 1), false);
        Checks.due("obj above", x.remove(2, 1), false);
        Checks.due("nothing was accepted", x.commit(), 1);
        Looks.lifeIs(x, 1, 1, 10, 1, 0);
        Checks.due("there is one", x.remove(1, 1), true);
        Checks.due("removed in this transaction", x.remove(1, 1), false);
        Checks.due("commit", x.commit(), 2);
        Checks.due("removed in the last transaction", x.remove(1, 1), false);
        Runs.commitNothing(x, 1);
        Checks.due("removed before that", x.remove(1, 1), false);
        Looks.lifeIs(x, 1, 1, 10, 1, 2);
        Checks.due("nothing was accepted", x.abort(), 0);
    }

    private static void removeLooksAtTheMaster() {
        Checks.part("promise 3, what only the mirror has");
        HistoricalTreeStore x = new HistoricalTreeStore();
        Runs.commitWrite(x, 1, 1, 10);
        Runs.syncAll(x);
        Runs.commitRemove(x, 1, 1);
        Checks.due("use", x.use(1), true);
        Checks.due("still visible in the mirror", x.has(1, 1, 3), true);
        Checks.due("remove", x.remove(1, 1), false);
        Checks.due("still visible in the mirror", x.has(1, 1, 3), true);
        Runs.commitWrite(x, 2, 2, 20);
        Checks.due("what only the master has", x.remove(2, 2), true);
    }

    private static void removeOfOwnRecord() {
        Checks.part("promise 3, a record of the open transaction");
        HistoricalTreeStore x = new HistoricalTreeStore();
        Runs.commitWrite(x, 1, 1, 10);
        Checks.due("write", x.write(1, 1, 20), true);
        Checks.due("remove", x.remove(1, 1), true);
        Checks.due("the older does not come back", x.has(1, 1, 2), false);
        Checks.due("remove twice", x.remove(1, 1), false);
        Checks.due("size before commit", x.size(), 2);
        Checks.due("two changes", x.abort(), 2);
        Looks.lifeIs(x, 1, 1, 10, 1, 0);
    }

    private static void removeAtForty() {
        Checks.part("promise 3, 'or 40 changes were accepted'");
        HistoricalTreeStore x = new HistoricalTreeStore();
        Runs.commitWrite(x, 1, 1, 10);
        Runs.commitWrite(x, 2, 2, 20);
        Runs.rewrite(x, 3, 3, 39);
        Checks.due("change 40", x.remove(1, 1), true);
        Checks.due("change 41", x.remove(2, 2), false);
        Checks.due("it is not ended", x.read(2, 2, 3), 20);
        Checks.due("own record, change 41", x.remove(3, 3), false);
        Checks.due("it is not ended", x.read(3, 3, 3), 39);
        Checks.due("none there, change 41", x.remove(9, 9), false);
        Checks.due("accepted", x.abort(), 40);
        Checks.due("change 1", x.remove(2, 2), true);
        Checks.due("commit", x.commit(), 3);
        Looks.lifeIs(x, 1, 1, 10, 1, 0);
        Looks.lifeIs(x, 2, 2, 20, 2, 3);
    }

    private static void removeInAFullMaster() {
        Checks.part("promise 3, nothing is added");
        HistoricalTreeStore x = new HistoricalTreeStore();
        Runs.fill(x, 0, 100);
        for (int obj = 0; obj < 40; obj++) {
            Checks.due("remove " + obj, x.remove(obj, 0), true);
        }
        Checks.due("change 41", x.remove(40, 0), false);
        Checks.due("size", x.size(), 100);
        Checks.due("commit", x.commit(), 4);
        Checks.due("size", x.size(), 100);
        Checks.due("change 1", x.remove(40, 0), true);
    }
}
