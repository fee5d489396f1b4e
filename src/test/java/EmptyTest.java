import java.util.List;

/** What is empty: no terms, no entries, no messages, no BASE, a server that holds nothing. */
public final class EmptyTest {
    private static final int NONE = -1;

    private final Checks checks = new Checks();

    public static void main(String[] args) {
        EmptyTest test = new EmptyTest();
        test.noTerms();
        test.noEntries();
        test.entriesOfAnEmptyState();
        test.noEntriesLeft();
        test.emptyIntoEmpty();
        test.emptyIntoFull();
        test.noMessages();
        test.noBase();
        test.serverWithoutATerm();
        test.replyWithoutATerm();
        test.noneIsTheBaseOfNone();
        test.baseWhereTheServerHoldsNothing();
        test.noBaseWhereTheServerHoldsSomething();
        test.checks.end();
    }

    private void due(Run run, int want, String name, int... a) {
        checks.due(Run.told(name, a), run.answer(name, a), want);
    }

    private void noTerms() {
        checks.about("TERMS are numbered 0, 1, .. as they are first made");
        Run fresh = Edges.fresh();
        checks.due("terms of a new object", fresh.countTerms(), 0);
        for (int n = 0; n <= 8; n++) {
            due(fresh, 0, "leak", n);
            due(fresh.then("leak", n), n, "term", 0, 1);
            due(fresh.then("leak", n), 0, "atom", n);
            due(fresh.then("leak", n).then("leak", n), NONE, "term", 1, 0);
        }
        due(fresh, 13, "steal", 2);
        checks.due("terms after steal(2)", fresh.then("steal", 2).countTerms(), 14);
        Run edits = Edges.open().then("put", 0, 0, 0).then("erase", 0, 0).then("change", 0, 5).then("pull", 0);
        checks.due("edits and a PULL make no terms", edits.countTerms(), 0);
        checks.due("nor does a REPLY without one", edits.then("deliver", 0).then("deliver", 0).countTerms(), 0);
    }

    private void noEntries() {
        checks.about("promises 5, 6 and 22: a device without entries");
        for (int d = 0; d < 3; d++) {
            due(Edges.open(), 0, "device", d, 9);
            for (int item = 0; item < 4; item++) {
                due(Edges.open(), 0, "get", d, item, -1);
                due(Edges.open(), NONE, "get", d, item, 0);
                due(Edges.open(), NONE, "erase", d, item);
                due(Edges.open().then("erase", d, item), 0, "device", d, 1 + d);
            }
        }
    }

    /** LIST(generation, device, box, v0, v1, v2, the entries): behind six parts stands NUMBER 0. */
    private void entriesOfAnEmptyState() {
        checks.about("the ENTRIES are NUMBER 0 if there are none");
        Run run = Edges.fresh().then("steal", 1);
        int end = behind(run, run.answer("term", run.lastAnswer(), 1), 6);
        due(run, 1, "term", end, 0);
        due(run, 0, "term", end, 1);
    }

    private void noEntriesLeft() {
        checks.about("the ENTRIES are NUMBER 0 if there are none left");
        Run run = Edges.open().then("put", 1, 2, 3).then("put", 1, 3, 4).then("steal", 1);
        int list = behind(run, run.answer("term", run.lastAnswer(), 1), 6);
        due(run, 4, "term", list, 0);
        int end = behind(run, list, 2);
        due(run, 1, "term", end, 0);
        due(run, 0, "term", end, 1);
        Run erased = run.then("erase", 1, 2).then("erase", 1, 3).then("steal", 1);
        int state = erased.answer("term", erased.lastAnswer(), 1);
        due(erased, end, "term", behind(erased, state, 5), 2);
        due(erased, 0, "device", 1, 9);
        due(erased, 4, "device", 1, 2);
    }

    private static int behind(Run run, int list, int parts) {
        int rest = list;
        for (int i = 0; i < parts; i++) {
            rest = run.answer("term", rest, 2);
        }
        return rest;
    }

    private void emptyIntoEmpty() {
        checks.about("promise 10: a state without entries and counts comes to a device that has none");
        Run run = Edges.open().then("steal", 2).then("forge", 0, 13).then("deliver", 0);
        int[] want = {0, 0, 0, 0, 0, 0, 0, 0, 0, 0, 13};
        for (int w = 0; w <= 10; w++) {
            due(run, want[w], "device", 0, w);
        }
    }

    private void emptyIntoFull() {
        checks.about("promise 10: a state without entries that knows all dots takes all away");
        Run run = Edges.open().then("put", 1, 0, 1).then("put", 1, 1, 2).then("steal", 1);
        run = run.then("forge", 0, run.lastAnswer()).then("deliver", 0);
        due(run, 2, "device", 0, 9);
        run = run.then("erase", 1, 0).then("erase", 1, 1).then("steal", 1);
        run = run.then("forge", 0, run.lastAnswer()).then("deliver", 0);
        due(run, 0, "device", 0, 9);
        due(run, 4, "device", 0, 2);
        checks.about("promise 10: a state without entries that knows no dot takes none away");
        Run kept = Edges.open().then("steal", 1).then("put", 0, 0, 1).then("forge", 0, 13).then("deliver", 0);
        due(kept, 1, "device", 0, 9);
        due(kept, 13, "device", 0, 10);
    }

    private void noMessages() {
        checks.about("promises 10 to 13: nothing is under way");
        for (Run run : new Run[] {Edges.fresh(), Edges.open(), Edges.mail(1).then("drop", 0), Edges.mail(12).then("deliver", 3)
                .then("drop", 11).then("drop", 0).then("drop", 9).then("drop", 0).then("drop", 0).then("drop", 0)
                .then("drop", 0).then("drop", 0).then("drop", 0).then("drop", 0).then("drop", 0).then("drop", 0)}) {
            due(run, 0, "flight");
            due(run, 0, "deliver", 0);
            due(run, 0, "drop", 0);
            for (int w = 0; w < 4; w++) {
                due(run, NONE, "message", 0, w);
            }
        }
    }

    private void noBase() {
        checks.about("promises 9, 12 and 22: a device without a BASE");
        for (int d = 0; d < 3; d++) {
            due(Edges.fresh(), NONE, "device", d, 10);
            Run pushed = Edges.open().then("push", d);
            due(pushed, NONE, "device", d, 10);
            due(pushed, NONE, "message", 0, 2);
            due(pushed.then("deliver", 0), NONE, "device", d, 10);
            due(pushed.then("deliver", 0).then("lock", d).then("deliver", 0), NONE, "device", d, 10);
            due(pushed.then("deliver", 0).then("drop", 0), NONE, "device", d, 10);
            due(pushed.then("deliver", 0).then("deliver", 0), 13, "device", d, 10);
        }
    }

    private void serverWithoutATerm() {
        checks.about("promise 23: NONE if none");
        due(Edges.fresh(), NONE, "server");
        due(Edges.open().then("pull", 0).then("deliver", 0), NONE, "server");
        due(Edges.open().then("push", 0), NONE, "server");
        due(Edges.open().then("push", 0).then("drop", 0), NONE, "server");
        due(Edges.open().then("push", 0).then("deliver", 0), 13, "server");
        due(Edges.fresh().then("steal", 0), NONE, "server");
        due(Edges.fresh().then("steal", 0).then("forge", 0, 13).then("deliver", 0), NONE, "server");
    }

    private void replyWithoutATerm() {
        checks.about("promise 10: a REPLY is thrown away if there is no term");
        Run before = Edges.open().then("put", 1, 0, 1);
        for (int d = 0; d < 3; d++) {
            Run replied = before.then("pull", d).then("deliver", 0);
            due(replied, 2, "message", 0, 0);
            due(replied, d, "message", 0, 1);
            due(replied, NONE, "message", 0, 2);
            due(replied, NONE, "message", 0, 3);
            due(replied, 1, "deliver", 0);
            List<Integer> after = replied.then("deliver", 0).sight();
            checks.due("all is as before after it", after.equals(before.sight()), true);
        }
    }

    private void noneIsTheBaseOfNone() {
        checks.about("promise 10: a PUSH, if both are none: it holds the seal from then on");
        for (int d = 0; d < 3; d++) {
            Run run = Edges.open().then("put", d, 1, 1).then("push", d);
            int seal = run.lastAnswer();
            due(run.then("deliver", 0), seal, "server");
            due(run.then("deliver", 0), seal, "message", 0, 3);
            due(run.then("deliver", 0), 2, "message", 0, 0);
            due(run.then("deliver", 0), d, "message", 0, 1);
        }
    }

    private void baseWhereTheServerHoldsNothing() {
        checks.about("promise 10: a PUSH with a base while the server holds nothing");
        Run run = Edges.open().then("steal", 1).then("forge", 0, 13).then("deliver", 0).then("put", 0, 0, 1).then("push", 0);
        due(run, 13, "message", 0, 2);
        run = run.then("deliver", 0);
        checks.due("deliver(0)", run.lastAnswer(), 1);
        due(run, NONE, "server");
        due(run, 1, "flight");
        due(run, 2, "message", 0, 0);
        due(run, 0, "message", 0, 1);
        due(run, NONE, "message", 0, 3);
    }

    private void noBaseWhereTheServerHoldsSomething() {
        checks.about("promise 10: a PUSH without a base while the server holds something");
        Run run = Edges.open().then("leak", 3).then("plant", 0).then("push", 2).then("deliver", 0);
        due(run, 0, "server");
        due(run, 2, "message", 0, 0);
        due(run, 2, "message", 0, 1);
        due(run, 0, "message", 0, 3);
        due(run.then("deliver", 0), NONE, "device", 2, 10);
    }
}
