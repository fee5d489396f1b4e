/**
 * "If several would do, exceptions come first, in the order in which they are listed, then the answers, likewise."
 * Each call here has two or more reasons to be refused.
 */
public final class FirstAnswerTest extends Forger {
    private static final int ARGUMENT = Calls.BAD_ARGUMENT;
    private static final int STATE = Calls.BAD_STATE;
    private static final int NONE = -1;
    private static final int FULL = -2;

    public static void main(String[] args) {
        FirstAnswerTest test = new FirstAnswerTest();
        test.argumentBeforeFalse();
        test.argumentBeforeState();
        test.argumentBeforeFull();
        test.stateBeforeFull();
        test.stateBeforeNone();
        test.stateBeforeTrue();
        test.fullBeforeNone();
        test.noneBeforeFull();
        test.fullThoughLost();
        test.twelveEntries();
        test.checks.end();
    }

    private void first(Run run, int want, String name, int... a) {
        int got = run.answer(name, a);
        if (got != want) {
            checks.tell(Run.told(name, a) + " answered " + Calls.told(got) + ", due is " + Calls.told(want));
        }
    }

    private void argumentBeforeFalse() {
        checks.about("IllegalArgumentException goes before false");
        first(Edges.open(), ARGUMENT, "unlock", 0, 8);
        first(Edges.open(), ARGUMENT, "unlock", 0, -1);
        first(Edges.fresh(), ARGUMENT, "unlock", 0, 8);
        first(Edges.fresh(), ARGUMENT, "unlock", 3, 8);
        first(Edges.fresh(), ARGUMENT, "unlock", 3, 1);
        first(Edges.fresh(), ARGUMENT, "lock", 3);
        first(Edges.fresh(), ARGUMENT, "lock", -1);
    }

    private void argumentBeforeState() {
        checks.about("IllegalArgumentException goes before IllegalStateException");
        Run locked = Edges.busy();
        for (Run run : new Run[] {Edges.fresh(), locked}) {
            for (int bad : new int[] {-1, 4, Integer.MIN_VALUE, Integer.MAX_VALUE}) {
                first(run, ARGUMENT, "put", 2, bad, 0);
                first(run, ARGUMENT, "put", bad, 0, 0);
                first(run, ARGUMENT, "erase", 2, bad);
                first(run, ARGUMENT, "erase", bad, 0);
                first(run, ARGUMENT, "get", 2, bad, 0);
                first(run, ARGUMENT, "get", 2, bad, -1);
                first(run, ARGUMENT, "get", bad, 0, 0);
                first(run, ARGUMENT, "change", bad, 0);
                first(run, ARGUMENT, "pull", bad);
                first(run, ARGUMENT, "push", bad);
            }
            for (int bad : new int[] {-1, 64, Integer.MIN_VALUE, Integer.MAX_VALUE}) {
                first(run, ARGUMENT, "put", 2, 0, bad);
                first(run, ARGUMENT, "change", 2, bad);
            }
            first(run, ARGUMENT, "change", 2, 8);
        }
    }

    private void argumentBeforeFull() {
        checks.about("IllegalArgumentException goes before FULL");
        Run count = Edges.count(0, 30);
        first(count, ARGUMENT, "put", 0, 4, 0);
        first(count, ARGUMENT, "put", 0, 0, 64);
        first(count, ARGUMENT, "put", 3, 0, 0);
        first(count, ARGUMENT, "erase", 0, 4);
        first(count, ARGUMENT, "erase", 3, 0);
        Run generation = Edges.generation(0, 30);
        first(generation, ARGUMENT, "change", 0, 8);
        first(generation, ARGUMENT, "change", -1, 0);
        Run terms = Edges.terms(900).then("put", 1, 0, 1);
        first(terms, ARGUMENT, "push", 3);
        first(terms, ARGUMENT, "push", -1);
    }

    private void stateBeforeFull() {
        checks.about("IllegalStateException goes before FULL");
        Run count = Edges.count(0, 30).then("lock", 0);
        first(count, STATE, "put", 0, 0, 0);
        first(count, STATE, "erase", 0, 0);
        first(count, STATE, "erase", 0, 3);
        first(Edges.generation(0, 30).then("lock", 0), STATE, "change", 0, 0);
        first(Edges.terms(900).then("put", 1, 0, 1).then("lock", 1), STATE, "push", 1);
    }

    private void stateBeforeNone() {
        checks.about("IllegalStateException goes before NONE");
        first(Edges.fresh(), STATE, "erase", 0, 0);
        for (int k : new int[] {-2, -1, 0, 1, Integer.MIN_VALUE, Integer.MAX_VALUE}) {
            first(Edges.fresh(), STATE, "get", 0, 0, k);
            first(Edges.busy(), STATE, "get", 2, 2, k);
        }
    }

    private void stateBeforeTrue() {
        checks.about("IllegalStateException also if the message would be lost");
        Run full = Edges.mail(12).then("lock", 0);
        first(full, STATE, "pull", 0);
        first(full, STATE, "push", 0);
        first(full, ARGUMENT, "pull", 3);
        first(full, ARGUMENT, "push", 3);
    }

    private void fullBeforeNone() {
        checks.about("promise 5: FULL if the count is 30; else NONE if there are none");
        Run count = Edges.count(0, 30);
        first(count, FULL, "erase", 0, 2);
        first(count, FULL, "erase", 0, 3);
        first(Edges.count(0, 29), NONE, "erase", 0, 2);
        first(Edges.count(0, 29), 1, "erase", 0, 1);
        first(count, NONE, "erase", 1, 2);
    }

    private void noneBeforeFull() {
        checks.about("promises 16 to 18: NONE stands before FULL");
        Run full = Edges.terms(900);
        int secret = full.answer("atom", 8);
        for (int kind : new int[] {-1, 0, 1, 6, 7}) {
            first(full, NONE, "build", kind, 0, 0);
        }
        for (int bad : new int[] {-1, 900, secret, Integer.MIN_VALUE, Integer.MAX_VALUE}) {
            first(full, NONE, "build", 4, bad, 0);
            first(full, NONE, "build", 4, 0, bad);
            first(full, NONE, "build", 2, bad, bad);
        }
        for (int n : new int[] {-1, 9, 10, 100, Integer.MIN_VALUE, Integer.MAX_VALUE}) {
            first(full, NONE, "leak", n);
        }
        for (int d : new int[] {-1, 3, Integer.MIN_VALUE, Integer.MAX_VALUE}) {
            first(full.then("put", 1, 0, 1), NONE, "steal", d);
        }
    }

    private void fullThoughLost() {
        checks.about("promise 9: FULL also if the message would be lost");
        Run full = Edges.terms(900).then("put", 1, 0, 1);
        for (int i = 0; i < 12; i++) {
            full = full.then("pull", 0);
        }
        first(full, FULL, "push", 1);
        first(full, 12, "flight");
    }

    private void twelveEntries() {
        start("promise 4: the exceptions and 12 entries");
        taken("12 entries", plain(vector(0, 0, 12), entries(many(0, 2, 12, box0))), true);
        first(x.run(), FULL, "put", 0, 1, 0);
        first(x.run(), ARGUMENT, "put", 0, 4, 0);
        first(x.run(), ARGUMENT, "put", 0, 1, 64);
        first(x.run().then("lock", 0), STATE, "put", 0, 1, 0);
        first(x.run().then("lock", 0), ARGUMENT, "put", 0, 1, -1);
    }
}
