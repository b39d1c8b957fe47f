/** The edges that promises 14 and 15, sync and synced, name; one test to a sentence. */
public final class SyncEdgesTest {
    private static final int LOW = Looks.LOW;
    private static final int HIGH = Looks.HIGH;

    public static void main(String[] args) {
        syncOutsideOneToFifty();
        syncWhenTheMirrorIsUpToDate();
        syncBelowDone();
        refusedSyncBeginsNone();
        refusedSyncKeepsThePlace();
        goalIsThePresentDone();
        goalIsKept();
        beginsBeforeAllRecords();
        beginsAnewBeforeAllRecords();
        sendsUpToN();
        sendsUpToFifty();
        sendsByObjThenKeyThenBorn();
        goesOnAfterTheOneSentLast();
        goesOnAfterTheSentOneIsGone();
        sendsBornFromMPlusOneToGoal();
        sendsDiedFromMPlusOneToGoal();
        sendsOldRecordsOnlyForTheirEnd();
        sendsDiedUpToTheGoal();
        sendsNoOpenChange();
        mirrorRecordGetsTheDied();
        mirrorRecordOfAnotherBornIsAnother();
        mirrorWithRoomForOne();
        fullMirrorSendsNothingMore();
        fullMirrorStillGetsEnds();
        fullMirrorStopsBeforeLaterEnds();
        fullMirrorAtTheFirstRecord();
        fullMirrorWithNothingLeft();
        fullMirrorAfterACrash();
        overWithTheLastRecord();
        overWithNothingToSend();
        syncedAtTheEdges();
        Checks.finish();
    }

    private static void syncOutsideOneToFifty() {
        Checks.part("promise 14, '-1 if n is outside 1..50'");
        int[] outside = {0, -1, LOW, LOW + 1, 51, 52, 256, HIGH - 1, HIGH};
        for (int n : outside) {
            HistoricalTreeStore x = new HistoricalTreeStore();
            Checks.due("nothing done, sync " + n, x.sync(n), -1);
            Runs.fill(x, 0, 4);
            Checks.due("none under way, sync " + n, x.sync(n), -1);
            Checks.due("none begins", x.synced(), 0);
            Checks.due("one under way", x.sync(2), 2);
            Checks.due("one under way, sync " + n, x.sync(n), -1);
            Checks.due("it stays", x.synced(), 1000000);
            Looks.sizesAre(x, 4, 2);
            Checks.due("the rest", x.sync(50), 2);
            Checks.due("up to date, sync " + n, x.sync(n), -1);
            Checks.due("synced", x.synced(), 1);
        }
        HistoricalTreeStore x = new HistoricalTreeStore();
        Runs.fill(x, 0, 100);
        Checks.due("1", x.sync(1), 1);
        Checks.due("2", x.sync(2), 2);
        Checks.due("50", x.sync(50), 50);
        Checks.due("47 are left, 46", x.sync(46), 46);
        Checks.due("49", x.sync(49), 1);
    }

    private static void syncWhenTheMirrorIsUpToDate() {
        Checks.part("promise 14, '-1 if none is under way and m is done'");
        HistoricalTreeStore x = new HistoricalTreeStore();
        Checks.due("m 0, done 0", x.sync(1), -1);
        Checks.due("synced", x.synced(), 0);
        Runs.fill(x, 0, 2);
        Checks.due("m 0, done 1", x.sync(50), 2);
        Checks.due("m 1, done 1", x.sync(1), -1);
        Checks.due("m 1, done 1", x.sync(50), -1);
        Checks.due("synced", x.synced(), 1);
        Checks.due("write", x.write(9, 9, 9), true);
        Checks.due("an open change does not count", x.sync(1), -1);
        Checks.due("commit", x.commit(), 2);
        Checks.due("m 1, done 2", x.sync(1), 1);
        Checks.due("m 2, done 2", x.sync(1), -1);
        Looks.sizesAre(x, 3, 3);
    }

    private static void syncBelowDone() {
        Checks.part("promise 14, 'one begins, if .. m below done'");
        HistoricalTreeStore x = new HistoricalTreeStore();
        Runs.fill(x, 0, 2);
        Checks.due("one below: begins", x.sync(1), 1);
        Checks.due("under way", x.synced(), 1000000);
        Checks.due("ends", x.sync(1), 1);
        Runs.fill(x, 10, 12);
        Runs.fill(x, 20, 22);
        Runs.fill(x, 30, 32);
        Checks.due("three below: begins", x.sync(5), 5);
        Checks.due("under way", x.synced(), 1000001);
        Checks.due("ends", x.sync(5), 1);
        Checks.due("synced", x.synced(), 4);
    }

    private static void refusedSyncBeginsNone() {
        Checks.part("promise 14, '-1, changing nothing': the goal");
        HistoricalTreeStore x = new HistoricalTreeStore();
        Runs.commitWrite(x, 5, 5, 10);
        Checks.due("refused", x.sync(0), -1);
        Checks.due("refused", x.sync(51), -1);
        Checks.due("synced", x.synced(), 0);
        Runs.commitWrite(x, 1, 1, 20);
        Checks.due("the goal is the done of the first call that counts", x.sync(1), 1);
        Checks.due("use", x.use(1), true);
        Checks.due("and so the later record comes first", x.read(1, 1, 2), 20);
        Checks.due("the other", x.sync(1), 1);
        Checks.due("synced", x.synced(), 2);
        Checks.due("m is done", x.sync(1), -1);
        Runs.commitWrite(x, 7, 7, 30);
        Checks.due("a refused one left no goal behind", x.sync(1), 1);
        Checks.due("synced", x.synced(), 3);
    }

    private static void refusedSyncKeepsThePlace() {
        Checks.part("promise 14, '-1, changing nothing': the place");
        HistoricalTreeStore x = new HistoricalTreeStore();
        Runs.fill(x, 0, 4);
        Checks.due("use", x.use(1), true);
        for (int obj = 0; obj < 4; obj++) {
            Checks.due("refused", x.sync(0), -1);
            Checks.due("refused", x.sync(51), -1);
            Checks.due("size", x.size(), obj);
            Checks.due("sync", x.sync(1), 1);
            Checks.due("the next in order", x.has(obj, 0, 1), true);
        }
        Checks.due("over", x.synced(), 1);
    }

    private static void goalIsThePresentDone() {
        Checks.part("promise 14, 'its goal is the present done'");
        HistoricalTreeStore x = new HistoricalTreeStore();
        Runs.commitWrite(x, 1, 1, 10);
        Runs.commitWrite(x, 2, 2, 20);
        Checks.due("write in the open transaction", x.write(3, 3, 30), true);
        Checks.due("sync", x.sync(50), 2);
        Checks.due("synced", x.synced(), 2);
        Checks.due("commit", x.commit(), 3);
        Checks.due("sync", x.sync(50), 1);
        Checks.due("synced", x.synced(), 3);
    }

    private static void goalIsKept() {
        Checks.part("promise 14, the goal stays while it is under way");
        HistoricalTreeStore x = new HistoricalTreeStore();
        Runs.fill(x, 10, 13);
        Checks.due("sync", x.sync(1), 1);
        Runs.commitWrite(x, 11, 5, 50);
        Runs.commitWrite(x, 20, 5, 51);
        Checks.due("later records are left out", x.sync(50), 2);
        Checks.due("synced", x.synced(), 1);
        Looks.sizesAre(x, 5, 3);
        Checks.due("the next takes them", x.sync(50), 2);
        Checks.due("synced", x.synced(), 3);
        Looks.sizesAre(x, 5, 5);
    }

    private static void beginsBeforeAllRecords() {
        Checks.part("promise 14, 'it begins before all records'");
        HistoricalTreeStore x = new HistoricalTreeStore();
        Runs.commitWrite(x, LOW, LOW, 10);
        Runs.commitWrite(x, 0, 0, 20);
        Runs.commitWrite(x, HIGH, HIGH, 30);
        Checks.due("use", x.use(1), true);
        Checks.due("sync", x.sync(1), 1);
        Checks.due("the least of all", x.read(LOW, LOW, 3), 10);
        Checks.due("sync", x.sync(1), 1);
        Checks.due("zero", x.read(0, 0, 3), 20);
        Checks.due("sync", x.sync(1), 1);
        Checks.due("the greatest of all", x.read(HIGH, HIGH, 3), 30);
        Checks.due("over", x.synced(), 3);
    }

    private static void beginsAnewBeforeAllRecords() {
        Checks.part("promise 14, a second one begins before all records too");
        HistoricalTreeStore x = new HistoricalTreeStore();
        Runs.commitWrite(x, HIGH, HIGH, 10);
        Runs.syncAll(x);
        Runs.commitWrite(x, LOW, LOW, 20);
        Checks.due("sync", x.sync(1), 1);
        Checks.due("synced", x.synced(), 2);
        Checks.due("use", x.use(1), true);
        Checks.due("sent", x.read(LOW, LOW, 2), 20);
        Checks.due("remove", x.remove(LOW, LOW), true);
        Checks.due("commit", x.commit(), 3);
        Checks.due("the same record once more", x.sync(1), 1);
        Checks.due("its end", x.has(LOW, LOW, 3), false);
        Checks.due("synced", x.synced(), 3);
    }

    private static void sendsUpToN() {
        Checks.part("promise 14, 'up to n records are sent'");
        for (int n = 4; n <= 6; n++) {
            HistoricalTreeStore x = new HistoricalTreeStore();
            Runs.fill(x, 0, 5);
            Checks.due("5 to send, n " + n, x.sync(n), n == 4 ? 4 : 5);
            Checks.due("synced", x.synced(), n == 4 ? 1000000 : 1);
            Looks.sizesAre(x, 5, n == 4 ? 4 : 5);
            Checks.due("the next call", x.sync(n), n == 4 ? 1 : -1);
        }
    }

    private static void sendsUpToFifty() {
        Checks.part("promise 14, n 50");
        for (int records = 49; records <= 51; records++) {
            HistoricalTreeStore x = new HistoricalTreeStore();
            Runs.fill(x, 0, records);
            Checks.due(records + " to send", x.sync(50), Math.min(records, 50));
            Checks.due("synced", x.synced(), records == 51 ? 1000000 : x.done());
            Checks.due("the next call", x.sync(50), records == 51 ? 1 : -1);
            Checks.due("synced", x.synced(), x.done());
        }
    }

    private static void sendsByObjThenKeyThenBorn() {
        Checks.part("promise 14, 'in the order of obj, then key, then born'");
        HistoricalTreeStore x = new HistoricalTreeStore();
        int[] objs = {2, 1, 2, 1};
        int[] keys = {-1, 9, 3, 4};
        for (int version = 1; version <= 3; version++) {
            for (int i = 0; i < 4; i++) {
                Checks.due("write", x.write(objs[i], keys[i], 10 * i + version), true);
            }
            Checks.due("commit", x.commit(), version);
        }
        Checks.due("use", x.use(1), true);
        int sent = 0;
        for (int i : new int[] {3, 1, 0, 2}) {
            for (int version = 1; version <= 3; version++) {
                Checks.due("sync", x.sync(1), 1);
                sent++;
                Checks.due("size", x.size(), sent);
                Checks.due("sent", x.read(objs[i], keys[i], version), 10 * i + version);
                Checks.due("the next version is not", x.has(objs[i], keys[i], version + 1),
                        version == 3);
            }
        }
        Checks.due("over", x.synced(), 3);
    }

    private static void goesOnAfterTheOneSentLast() {
        Checks.part("promise 14, 'after the one sent last in this synchronisation'");
        HistoricalTreeStore x = new HistoricalTreeStore();
        Runs.fill(x, 0, 9);
        Checks.due("0 to 1", x.sync(2), 2);
        Checks.due("prune between", x.prune(), 0);
        Checks.due("2 to 4", x.sync(3), 3);
        Checks.due("write between", x.write(0, 0, 99), true);
        Checks.due("5", x.sync(1), 1);
        Checks.due("abort between", x.abort(), 1);
        Checks.due("6", x.sync(1), 1);
        Checks.due("snapshot between", x.snapshot(1), true);
        Checks.due("use between", x.use(1), true);
        Checks.due("size", x.size(), 7);
        Checks.due("7 and 8", x.sync(3), 2);
        Checks.due("over", x.synced(), 1);
        for (int obj = 0; obj < 9; obj++) {
            Checks.due("sent " + obj, x.read(obj, 0, 1), obj + 1);
        }
        Checks.due("size", x.size(), 9);
    }

    private static void goesOnAfterTheSentOneIsGone() {
        Checks.part("promise 14, the place is kept when records move or go");
        HistoricalTreeStore x = new HistoricalTreeStore();
        Runs.fill(x, 0, 6);
        Runs.endAll(x, 0, 3);
        Runs.syncAll(x);
        Runs.endAll(x, 3, 6);
        Checks.due("use", x.use(1), true);
        Checks.due("the end of 3", x.sync(1), 1);
        Checks.due("the mirror loses it", x.prune(), 4);
        Checks.due("use", x.use(0), true);
        Checks.due("the master loses others", x.prune(), 3);
        Checks.due("use", x.use(1), true);
        Checks.due("the end of 4", x.sync(1), 1);
        Checks.due("told", x.has(4, 0, 3), false);
        Checks.due("the end of 5", x.sync(1), 1);
        Checks.due("told", x.has(5, 0, 3), false);
        Checks.due("over", x.synced(), 3);
        Checks.due("3 was not sent again", x.size(), 2);
    }

    private static void sendsBornFromMPlusOneToGoal() {
        Checks.part("promise 14, 'with born from m + 1 to goal'");
        HistoricalTreeStore x = new HistoricalTreeStore();
        Runs.commitWrite(x, 9, 0, 10);
        Runs.commitWrite(x, 8, 0, 20);
        Runs.syncAll(x);
        Runs.commitWrite(x, 7, 0, 30);
        Runs.commitWrite(x, 6, 0, 40);
        Runs.commitWrite(x, 5, 0, 50);
        Checks.due("use", x.use(1), true);
        Checks.due("m 2, goal 5: born 5", x.sync(1), 1);
        Checks.due("sent", x.read(5, 0, 5), 50);
        Runs.commitWrite(x, 7, 1, 60);
        Checks.due("born 4 and 3, not 6, 2 and 1", x.sync(50), 2);
        Checks.due("born m + 2", x.read(6, 0, 5), 40);
        Checks.due("born m + 1", x.read(7, 0, 5), 30);
        Checks.due("born goal + 1", x.has(7, 1, 6), false);
        Checks.due("synced", x.synced(), 5);
        Checks.due("born goal + 1 is m + 1 now", x.sync(50), 1);
        Checks.due("sent", x.read(7, 1, 6), 60);
    }

    private static void sendsDiedFromMPlusOneToGoal() {
        Checks.part("promise 14, 'or born at most m and died from m + 1 to goal'");
        HistoricalTreeStore x = new HistoricalTreeStore();
        Runs.fill(x, 0, 6);
        Runs.commitRemove(x, 5, 0);
        Runs.syncAll(x);
        Runs.commitRemove(x, 4, 0);
        Runs.commitRemove(x, 3, 0);
        Runs.commitRemove(x, 1, 0);
        Checks.due("use", x.use(1), true);
        Checks.due("m 2, goal 5: died 5", x.sync(1), 1);
        Looks.lifeIs(x, 1, 0, 2, 1, 5);
        Runs.commitRemove(x, 2, 0);
        Checks.due("died 4 and 3, not 6 and 2", x.sync(50), 2);
        Looks.lifeIs(x, 3, 0, 4, 1, 4);
        Looks.lifeIs(x, 4, 0, 5, 1, 3);
        Looks.lifeIs(x, 2, 0, 3, 1, 0);
        Checks.due("synced", x.synced(), 5);
        Checks.due("died goal + 1 is m + 1 now", x.sync(50), 1);
        Looks.lifeIs(x, 2, 0, 3, 1, 6);
    }

    private static void sendsOldRecordsOnlyForTheirEnd() {
        Checks.part("promise 14, old records that have no new end");
        HistoricalTreeStore x = new HistoricalTreeStore();
        Runs.fill(x, 0, 30);
        Runs.endAll(x, 0, 10);
        Runs.syncAll(x);
        Runs.commitNothing(x, 1);
        Checks.due("died at most m, or not at all", x.sync(50), 0);
        Checks.due("synced", x.synced(), 3);
        Runs.commitRemove(x, 10, 0);
        Checks.due("born m - 2, died m + 1", x.sync(50), 1);
        Runs.commitWrite(x, 50, 0, 1);
        Runs.syncAll(x);
        Runs.commitRemove(x, 50, 0);
        Checks.due("born m, died m + 1", x.sync(50), 1);
        Runs.commitWrite(x, 60, 0, 1);
        Runs.commitRemove(x, 60, 0);
        Checks.due("born m + 1, died m + 2", x.sync(50), 1);
        Checks.due("m is done", x.sync(50), -1);
    }

    private static void sendsDiedUpToTheGoal() {
        Checks.part("promise 14, 'sent with died 0 if its died is above the goal'");
        HistoricalTreeStore x = new HistoricalTreeStore();
        Runs.fill(x, 0, 4);
        Runs.commitRemove(x, 1, 0);
        Runs.commitRemove(x, 2, 0);
        Checks.due("goal 3", x.sync(1), 1);
        Runs.commitRemove(x, 3, 0);
        Checks.due("the rest", x.sync(50), 3);
        Checks.due("synced", x.synced(), 3);
        Checks.due("use", x.use(1), true);
        Looks.lifeIs(x, 0, 0, 1, 1, 0);
        Looks.lifeIs(x, 1, 0, 2, 1, 2);
        Looks.lifeIs(x, 2, 0, 3, 1, 3);
        Looks.lifeIs(x, 3, 0, 4, 1, 0);
        Checks.due("goal 4", x.sync(50), 1);
        Looks.lifeIs(x, 3, 0, 4, 1, 4);
    }

    private static void sendsNoOpenChange() {
        Checks.part("promise 14, a died of the open transaction is above the goal");
        HistoricalTreeStore x = new HistoricalTreeStore();
        Runs.fill(x, 0, 2);
        Checks.due("remove", x.remove(0, 0), true);
        Checks.due("write", x.write(1, 0, 50), true);
        Checks.due("write", x.write(2, 0, 51), true);
        Checks.due("goal 1", x.sync(50), 2);
        Checks.due("use", x.use(1), true);
        Looks.lifeIs(x, 0, 0, 1, 1, 0);
        Looks.lifeIs(x, 1, 0, 2, 1, 0);
        Checks.due("size", x.size(), 2);
        Checks.due("commit", x.commit(), 2);
        Checks.due("goal 2", x.sync(50), 4);
        Looks.lifeIs(x, 0, 0, 1, 1, 2);
        Checks.due("older", x.read(1, 0, 1), 2);
        Checks.due("newer", x.read(1, 0, 2), 50);
        Checks.due("new", x.read(2, 0, 2), 51);
    }

    private static void mirrorRecordGetsTheDied() {
        Checks.part("promise 14, 'if the mirror has a record .., that gets the died sent'");
        HistoricalTreeStore x = new HistoricalTreeStore();
        Runs.fill(x, 0, 3);
        Runs.syncAll(x);
        Runs.commitNothing(x, 2);
        Runs.commitRemove(x, 1, 0);
        Checks.due("use", x.use(1), true);
        Looks.lifeIs(x, 1, 0, 2, 1, 0);
        Checks.due("sync", x.sync(50), 1);
        Looks.lifeIs(x, 1, 0, 2, 1, 4);
        Looks.lifeIs(x, 0, 0, 1, 1, 0);
        Looks.lifeIs(x, 2, 0, 3, 1, 0);
        Checks.due("none is added", x.size(), 3);
    }

    private static void mirrorRecordOfAnotherBornIsAnother() {
        Checks.part("promise 14, 'with the same obj, key and born'");
        HistoricalTreeStore x = new HistoricalTreeStore();
        Runs.commitWrite(x, 1, 1, 10);
        Runs.syncAll(x);
        Runs.commitWrite(x, 1, 1, 20);
        Runs.commitWrite(x, 1, 2, 30);
        Runs.commitWrite(x, 2, 1, 40);
        Checks.due("the old one's end and three new ones", x.sync(50), 4);
        Checks.due("use", x.use(1), true);
        Checks.due("three are added", x.size(), 4);
        Checks.due("older", x.read(1, 1, 1), 10);
        Checks.due("newer", x.read(1, 1, 2), 20);
        Checks.due("another key", x.read(1, 2, 4), 30);
        Checks.due("another obj", x.read(2, 1, 4), 40);
    }

    private static void mirrorWithRoomForOne() {
        Checks.part("promise 14, 'if that has 100': at 99");
        HistoricalTreeStore x = new HistoricalTreeStore();
        Runs.fillMirrorAlone(x, 80);
        Runs.fill(x, 100, 119);
        Checks.due("at 80", x.sync(50), 19);
        Looks.sizesAre(x, 19, 99);
        Runs.commitWrite(x, 200, 0, 1);
        Checks.due("at 99", x.sync(50), 1);
        Checks.due("over", x.synced(), x.done());
        Looks.sizesAre(x, 20, 100);
        Runs.commitWrite(x, 201, 0, 1);
        Checks.due("at 100", x.sync(50), 0);
        Checks.due("not over", x.synced(), 1000000 + x.done() - 1);
        Looks.sizesAre(x, 21, 100);
    }

    private static void fullMirrorSendsNothingMore() {
        Checks.part("promise 14, 'nothing is sent any more in this call'");
        HistoricalTreeStore x = new HistoricalTreeStore();
        Runs.fillMirrorAlone(x, 80);
        Runs.fill(x, 100, 130);
        int before = x.synced();
        Checks.due("twenty fit", x.sync(50), 20);
        Checks.due("under way", x.synced(), 1000000 + before);
        Checks.due("none fits", x.sync(50), 0);
        Checks.due("none fits", x.sync(1), 0);
        Checks.due("under way", x.synced(), 1000000 + before);
        Checks.due("use", x.use(1), true);
        Checks.due("the last that fitted", x.has(119, 0, x.done()), true);
        Checks.due("the first that did not", x.has(120, 0, x.done()), false);
        Checks.due("room", x.prune(), 80);
        Checks.due("the first that did not fit", x.sync(1), 1);
        Checks.due("it is the next in order", x.read(120, 0, x.done()), 121);
        Checks.due("the rest", x.sync(50), 9);
        Checks.due("over", x.synced(), x.done());
        Checks.due("size", x.size(), 30);
    }

    private static void fullMirrorStillGetsEnds() {
        Checks.part("promise 14, a full mirror has the record already");
        HistoricalTreeStore x = new HistoricalTreeStore();
        Runs.fill(x, 0, 100);
        Runs.syncAll(x);
        Looks.sizesAre(x, 100, 100);
        Runs.endAll(x, 60, 100);
        Checks.due("forty ends", x.sync(50), 40);
        Checks.due("over", x.synced(), 4);
        Checks.due("use", x.use(1), true);
        Checks.due("not ended", x.has(59, 0, 4), true);
        Checks.due("ended", x.has(60, 0, 4), false);
        Checks.due("ended", x.has(99, 0, 4), false);
        Checks.due("size", x.size(), 100);
    }

    private static void fullMirrorStopsBeforeLaterEnds() {
        Checks.part("promise 14, a record that finds no room stops those after it");
        HistoricalTreeStore x = new HistoricalTreeStore();
        Runs.fill(x, 0, 100);
        Runs.syncAll(x);
        Runs.commitRemove(x, 99, 0);
        Runs.syncAll(x);
        Checks.due("room in the master", x.prune(), 1);
        Checks.due("an end before", x.remove(10, 0), true);
        Checks.due("a new record", x.write(50, 7, 57), true);
        Checks.due("an end after", x.remove(90, 0), true);
        Checks.due("commit", x.commit(), 5);
        Checks.due("the end before", x.sync(50), 1);
        Checks.due("use", x.use(1), true);
        Checks.due("told", x.has(10, 0, 5), false);
        Checks.due("no room", x.has(50, 7, 5), false);
        Checks.due("not told", x.has(90, 0, 5), true);
        Checks.due("under way", x.synced(), 1000004);
        Checks.due("room in the mirror", x.prune(), 2);
        Checks.due("both", x.sync(50), 2);
        Checks.due("sent", x.read(50, 7, 5), 57);
        Checks.due("told", x.has(90, 0, 5), false);
        Checks.due("over", x.synced(), 5);
        Checks.due("size", x.size(), 99);
    }

    private static void fullMirrorAtTheFirstRecord() {
        Checks.part("promise 14, the first record finds no room");
        HistoricalTreeStore x = new HistoricalTreeStore();
        Runs.fill(x, 0, 100);
        Runs.syncAll(x);
        Runs.commitRemove(x, 99, 0);
        Runs.syncAll(x);
        Checks.due("room in the master", x.prune(), 1);
        Runs.commitWrite(x, -1, 0, 7);
        Checks.due("one begins, none is sent", x.sync(50), 0);
        Checks.due("under way", x.synced(), 1000004);
        Runs.commitRemove(x, 98, 0);
        Checks.due("none is sent", x.sync(50), 0);
        Checks.due("use", x.use(1), true);
        Checks.due("room in the mirror", x.prune(), 1);
        Checks.due("it still begins before all records", x.sync(50), 1);
        Checks.due("sent", x.read(-1, 0, 5), 7);
        Checks.due("the goal was kept", x.synced(), 5);
        Checks.due("the next", x.sync(50), 1);
        Checks.due("synced", x.synced(), 6);
    }

    private static void fullMirrorWithNothingLeft() {
        Checks.part("promise 14, the last record takes the last room");
        HistoricalTreeStore x = new HistoricalTreeStore();
        Runs.fill(x, 0, 100);
        Checks.due("sync", x.sync(50), 50);
        Checks.due("sync", x.sync(49), 49);
        Checks.due("under way", x.synced(), 1000000);
        Checks.due("the hundredth", x.sync(50), 1);
        Checks.due("over", x.synced(), 3);
        Runs.commitRemove(x, 0, 0);
        Runs.syncAll(x);
        Checks.due("room in the master", x.prune(), 1);
        Runs.commitNothing(x, 1);
        Looks.sizesAre(x, 99, 100);
        Checks.due("a full mirror and nothing to send", x.sync(50), 0);
        Checks.due("over", x.synced(), 5);
    }

    private static void fullMirrorAfterACrash() {
        Checks.part("promise 14, records sent before a crash are not added twice");
        HistoricalTreeStore x = new HistoricalTreeStore();
        Runs.fill(x, 0, 100);
        Checks.due("sync", x.sync(50), 50);
        Checks.due("sync", x.sync(49), 49);
        Checks.due("crash", x.crash(), 0);
        Checks.due("sent again", x.sync(50), 50);
        Looks.sizesAre(x, 100, 99);
        Checks.due("sent again, and the last", x.sync(50), 50);
        Looks.sizesAre(x, 100, 100);
        Checks.due("over", x.synced(), 3);
    }

    private static void overWithTheLastRecord() {
        Checks.part("promise 14, 'when no further record is left .. the synchronisation is over'");
        HistoricalTreeStore x = new HistoricalTreeStore();
        Runs.fill(x, 0, 3);
        Checks.due("two of three", x.sync(2), 2);
        Checks.due("not over", x.synced(), 1000000);
        Checks.due("three of three", x.sync(1), 1);
        Checks.due("over", x.synced(), 1);
        Checks.due("none under way", x.sync(1), -1);
        Runs.fill(x, 10, 13);
        Checks.due("all of three", x.sync(3), 3);
        Checks.due("over", x.synced(), 2);
        Checks.due("none under way", x.sync(1), -1);
    }

    private static void overWithNothingToSend() {
        Checks.part("promise 14, no record to send at all");
        HistoricalTreeStore x = new HistoricalTreeStore();
        Runs.commitNothing(x, 1);
        Checks.due("sync", x.sync(1), 0);
        Checks.due("over", x.synced(), 1);
        Checks.due("m is done", x.sync(1), -1);
        Runs.commitNothing(x, 3);
        Checks.due("sync", x.sync(50), 0);
        Checks.due("over", x.synced(), 4);
        Looks.sizesAre(x, 0, 0);
    }

    private static void syncedAtTheEdges() {
        Checks.part("promise 15, '+ 1000000 if a synchronisation is under way'");
        HistoricalTreeStore x = new HistoricalTreeStore();
        Checks.due("at first", x.synced(), 0);
        Runs.fill(x, 0, 2);
        Checks.due("commits do not count", x.synced(), 0);
        Checks.due("sync", x.sync(1), 1);
        Checks.due("under way, up to 0", x.synced(), 1000000);
        Runs.commitWrites(x, 9, 9, 1);
        Checks.due("commits do not count", x.synced(), 1000000);
        Checks.due("sync", x.sync(1), 1);
        Checks.due("up to the goal, not to done", x.synced(), 1);
        Runs.commitWrites(x, 9, 9, 1);
        Checks.due("sync", x.sync(1), 1);
        Checks.due("under way, up to 1", x.synced(), 1000001);
        Checks.due("asking changes nothing", x.synced(), 1000001);
        Checks.due("crash", x.crash(), 0);
        Checks.due("given up", x.synced(), 1);
        Checks.due("sync", x.sync(50), 2);
        Checks.due("up to 3", x.synced(), 3);
    }
}
