import java.util.ArrayList;
import java.util.List;
import java.util.function.Consumer;
import java.util.function.ToLongFunction;

/**
 * Two objects brought to the same state. One of them gets a call that must change nothing, the other
 * is spared it; whatever both are asked afterwards, they have to answer alike.
 */
final class Twins {
    private static final int LOW = Looks.LOW;
    private static final int HIGH = Looks.HIGH;

    // With walks of so many records no probe goes beyond the 512 calls that an object is promised
    // for, even in a state that took two hundred.
    private static final int LONG_WALK = 55;
    private static final int SHORT_WALK = 25;

    private interface Probe {
        void ask(HistoricalTreeStore x, List<Long> answers);
    }

    // Each probe gets twins of its own, because most of them change what they ask about.
    private static final Probe[] PROBES = {
        Twins::standing, Twins::volumeInUse, Twins::upperMaster, Twins::history, Twins::afterAbort,
        Twins::afterCommit, Twins::afterCrash, Twins::changesLeft, Twins::stepsOfSync,
        Twins::pruneBoth, Twins::snapshotsUpwards, Twins::snapshotsDownwards
    };

    private Twins() {
    }

    static void changesNothing(String state, Consumer<HistoricalTreeStore> way, String call,
            ToLongFunction<HistoricalTreeStore> spared, long answer) {
        for (int probe = 0; probe < PROBES.length; probe++) {
            HistoricalTreeStore called = new HistoricalTreeStore();
            HistoricalTreeStore twin = new HistoricalTreeStore();
            Checks.part(state + ", " + call + ", probe " + probe);
            way.accept(called);
            way.accept(twin);
            Checks.due(call, spared.applyAsLong(called), answer);
            compare(answersOf(probe, called), answersOf(probe, twin));
        }
    }

    private static List<Long> answersOf(int probe, HistoricalTreeStore x) {
        List<Long> answers = new ArrayList<>();
        PROBES[probe].ask(x, answers);
        return answers;
    }

    private static void compare(List<Long> got, List<Long> want) {
        Checks.due("the number of answers", got.size(), want.size());
        for (int i = 0; i < got.size() && i < want.size(); i++) {
            Checks.due("answer " + i, got.get(i), want.get(i));
        }
    }

    private static void standing(HistoricalTreeStore x, List<Long> answers) {
        add(answers, x.size());
        add(answers, x.done());
        add(answers, x.synced());
        for (int which = 0; which < 4; which++) {
            add(answers, x.found(which));
        }
        sizes(x, answers);
        add(answers, x.abort());
        sizes(x, answers);
    }

    private static void sizes(HistoricalTreeStore x, List<Long> answers) {
        for (int volume = 0; volume <= 1; volume++) {
            x.use(volume);
            add(answers, x.size());
        }
    }

    private static void volumeInUse(HistoricalTreeStore x, List<Long> answers) {
        walk(x, LOW, x.done() + 1, LONG_WALK, answers);
    }

    private static void upperMaster(HistoricalTreeStore x, List<Long> answers) {
        x.use(0);
        walk(x, 49, x.done() + 1, LONG_WALK, answers);
    }

    private static void walk(HistoricalTreeStore x, int afterObj, int t, int longest,
            List<Long> answers) {
        int obj = afterObj;
        int key = afterObj == LOW ? LOW : HIGH;
        for (int i = 0; i < longest && x.next(obj, key, t); i++) {
            obj = x.found(0);
            key = x.found(1);
            add(answers, obj);
            add(answers, key);
            add(answers, x.found(2));
            add(answers, x.found(3));
        }
    }

    private static void history(HistoricalTreeStore x, List<Long> answers) {
        int latest = x.done() + 1;
        for (int volume = 0; volume <= 1; volume++) {
            x.use(volume);
            for (int t = 0; t <= latest; t++) {
                for (int obj = 0; obj <= 9; obj++) {
                    add(answers, x.read(obj, 0, t));
                }
            }
        }
    }

    private static void afterAbort(HistoricalTreeStore x, List<Long> answers) {
        add(answers, x.abort());
        add(answers, x.size());
        walk(x, LOW, x.done() + 1, LONG_WALK, answers);
        add(answers, x.commit());
    }

    private static void afterCommit(HistoricalTreeStore x, List<Long> answers) {
        add(answers, x.commit());
        add(answers, x.size());
        walk(x, LOW, x.done() + 1, LONG_WALK, answers);
        sizes(x, answers);
        add(answers, x.abort());
    }

    private static void afterCrash(HistoricalTreeStore x, List<Long> answers) {
        add(answers, x.crash());
        add(answers, x.size());
        add(answers, x.synced());
        add(answers, x.sync(50));
        walk(x, LOW, x.done() + 1, LONG_WALK, answers);
        sizes(x, answers);
    }

    private static void changesLeft(HistoricalTreeStore x, List<Long> answers) {
        for (int i = 0; i <= 41; i++) {
            add(answers, x.remove(i, 0) ? 1 : 0);
        }
        for (int i = 0; i <= 41; i++) {
            add(answers, x.write(700, 0, i) ? 1 : 0);
        }
        add(answers, x.abort());
    }

    private static void stepsOfSync(HistoricalTreeStore x, List<Long> answers) {
        for (int i = 0; i < 60; i++) {
            add(answers, x.sync(1));
            add(answers, x.synced());
            x.use(1);
            add(answers, x.size());
        }
    }

    private static void pruneBoth(HistoricalTreeStore x, List<Long> answers) {
        add(answers, x.prune());
        x.abort();
        add(answers, x.prune());
        for (int volume = 0; volume <= 1; volume++) {
            x.use(volume);
            add(answers, x.prune());
        }
        for (int i = 0; i < 3; i++) {
            add(answers, x.sync(50));
        }
        for (int volume = 0; volume <= 1; volume++) {
            x.use(volume);
            add(answers, x.prune());
            add(answers, x.size());
            walk(x, LOW, 1, SHORT_WALK, answers);
        }
    }

    private static void snapshotsUpwards(HistoricalTreeStore x, List<Long> answers) {
        int done = x.done();
        for (int t = 0; t <= done; t++) {
            add(answers, x.snapshot(t) ? 1 : 0);
        }
        pruneBoth(x, answers);
    }

    private static void snapshotsDownwards(HistoricalTreeStore x, List<Long> answers) {
        for (int t = x.done(); t >= 0; t--) {
            add(answers, x.snapshot(t) ? 1 : 0);
        }
        pruneBoth(x, answers);
    }

    private static void add(List<Long> answers, long answer) {
        answers.add(answer);
    }
}
