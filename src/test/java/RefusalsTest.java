import java.util.List;

/**
 * "A call that answers false, NONE or FULL, or throws, changes nothing." Each refused call is made behind a run, must
 * answer what is due, and all that can be seen of the object must be as without it.
 */
public final class RefusalsTest extends Forger {
    private static final int ARGUMENT = Calls.BAD_ARGUMENT;
    private static final int STATE = Calls.BAD_STATE;
    private static final int NONE = -1;
    private static final int FULL = -2;
    private static final int NO = 0;
    private static final int BATCH = 100;

    private static final int[] NO_DEVICE = Edges.outside(0, 2);
    private static final int[] NO_ITEM = Edges.outside(0, 3);
    private static final int[] NO_CONTENT = Edges.outside(0, 63);
    private static final int[] NO_PASSWORD = Edges.outside(0, 7);

    private final Run fresh = Edges.fresh();
    private final Run open = Edges.open();
    private final Run busy = Edges.busy();
    private final int flight = busy.answer("flight");
    private final int terms = busy.countTerms();

    public static void main(String[] args) {
        RefusalsTest test = new RefusalsTest();
        test.unlock();
        test.lock();
        test.put();
        test.putFull();
        test.erase();
        test.get();
        test.change();
        test.pull();
        test.push();
        test.deliverAndDrop();
        test.message();
        test.forge();
        test.plant();
        test.build();
        test.leak();
        test.steal();
        test.known();
        test.term();
        test.atom();
        test.device();
        test.termsFull();
        test.checks.end();
    }

    private void refused(Run run, int want, String name, int... a) {
        int at = a.length == 0 ? 0 : a[0];
        refusedAll(run, want, new int[] {at}, 0, name, a);
    }

    /** The call with each of these values in this place of it. */
    private void refusedAll(Run run, int want, int[] values, int place, String name, int... a) {
        for (int from = 0; from < values.length; from += BATCH) {
            Run longer = run;
            for (int i = from; i < Math.min(from + BATCH, values.length); i++) {
                int[] args = a.clone();
                args[place] = values[i];
                longer = longer.then(name, args);
            }
            compare(run, longer, want);
        }
    }

    private void compare(Run run, Run longer, int want) {
        int[] answers = longer.answers();
        for (int i = run.size(); i < answers.length; i++) {
            if (answers[i] != want) {
                checks.tell(longer.lastCall() + " or one like it answered " + Calls.told(answers[i])
                        + ", due is " + Calls.told(want));
            }
        }
        List<Integer> before = run.sight();
        List<Integer> after = longer.sight();
        if (!before.equals(after)) {
            checks.tell(longer.lastCall() + " or one like it was refused, but changed something");
        }
    }

    private void unlock() {
        checks.about("promise 2: IllegalArgumentException if there is no such device or password");
        for (Run run : new Run[] {fresh, open, busy}) {
            refusedAll(run, ARGUMENT, NO_DEVICE, 0, "unlock", 0, 0);
            refusedAll(run, ARGUMENT, NO_PASSWORD, 1, "unlock", 0, 0);
            refusedAll(run, ARGUMENT, NO_PASSWORD, 1, "unlock", 2, 0);
        }
        checks.about("promise 2: false if it is another one or the device is not LOCKED");
        refusedAll(fresh, NO, new int[] {1, 2, 3, 4, 5, 6, 7}, 1, "unlock", 0, 0);
        refusedAll(open, NO, new int[] {0, 1, 2, 3, 4, 5, 6, 7}, 1, "unlock", 0, 0);
        refusedAll(busy, NO, new int[] {0, 3, 4, 7}, 1, "unlock", 1, 0);
        refusedAll(busy.then("lock", 1), NO, new int[] {0, 1, 2, 3, 5, 6, 7}, 1, "unlock", 1, 0);
        checks.due("unlock(1, 4)", busy.then("lock", 1).answer("unlock", 1, 4), 1);
    }

    private void lock() {
        checks.about("promise 3: IllegalArgumentException if there is no such device");
        for (Run run : new Run[] {fresh, open, busy}) {
            refusedAll(run, ARGUMENT, NO_DEVICE, 0, "lock", 0);
        }
        checks.about("promise 3: false if it is so already");
        refusedAll(fresh, NO, new int[] {0, 1, 2}, 0, "lock", 0);
        refused(busy, NO, "lock", 2);
    }

    private void put() {
        checks.about("promise 4: IllegalArgumentException if there is no such device, item or content");
        for (Run run : new Run[] {fresh, open, busy}) {
            refusedAll(run, ARGUMENT, NO_DEVICE, 0, "put", 0, 0, 0);
            refusedAll(run, ARGUMENT, NO_ITEM, 1, "put", 0, 0, 0);
            refusedAll(run, ARGUMENT, NO_CONTENT, 2, "put", 0, 0, 0);
            refusedAll(run, ARGUMENT, NO_CONTENT, 2, "put", 2, 3, 0);
        }
        checks.about("promise 4: IllegalStateException if it is LOCKED");
        refusedAll(fresh, STATE, new int[] {0, 1, 2}, 0, "put", 0, 0, 0);
        refusedAll(busy, STATE, new int[] {0, 1, 2, 3}, 1, "put", 2, 0, 63);
    }

    private void putFull() {
        checks.about("promise 4: FULL if the count is 30");
        for (int d = 0; d < 3; d++) {
            refusedAll(Edges.count(d, 30), FULL, new int[] {0, 1, 2, 3}, 1, "put", d, 0, 5);
        }
        start("promise 4: FULL if there would be more than 12 entries");
        taken("12 entries", plain(vector(0, 0, 12), entries(many(0, 2, 12, box0))), true);
        refusedAll(x.run(), FULL, new int[] {1, 2, 3}, 1, "put", 0, 0, 5);
        checks.due("put(0, 0, 5)", x.run().answer("put", 0, 0, 5), 1);
    }

    private void erase() {
        checks.about("promise 5: IllegalArgumentException if there is no such device or item");
        for (Run run : new Run[] {fresh, open, busy}) {
            refusedAll(run, ARGUMENT, NO_DEVICE, 0, "erase", 0, 0);
            refusedAll(run, ARGUMENT, NO_ITEM, 1, "erase", 0, 0);
            refusedAll(run, ARGUMENT, NO_ITEM, 1, "erase", 2, 0);
        }
        checks.about("promise 5: IllegalStateException if it is LOCKED");
        refusedAll(fresh, STATE, new int[] {0, 1, 2}, 0, "erase", 0, 0);
        refusedAll(busy, STATE, new int[] {0, 1, 2, 3}, 1, "erase", 2, 0);
        checks.about("promise 5: FULL if the count is 30");
        for (int d = 0; d < 3; d++) {
            refusedAll(Edges.count(d, 30), FULL, new int[] {0, 1}, 1, "erase", d, 0);
        }
        checks.about("promise 5: else NONE if there are none");
        refusedAll(open, NONE, new int[] {0, 1, 2, 3}, 1, "erase", 1, 0);
        refusedAll(busy, NONE, new int[] {1, 2}, 1, "erase", 0, 0);
        refusedAll(Edges.count(1, 29), NONE, new int[] {2, 3}, 1, "erase", 1, 0);
    }

    private void get() {
        checks.about("promise 6: IllegalArgumentException if there is no such device or item");
        for (Run run : new Run[] {fresh, open, busy}) {
            refusedAll(run, ARGUMENT, NO_DEVICE, 0, "get", 0, 0, 0);
            refusedAll(run, ARGUMENT, NO_ITEM, 1, "get", 0, 0, 0);
            refusedAll(run, ARGUMENT, NO_ITEM, 1, "get", 2, 0, -1);
        }
        checks.about("promise 6: IllegalStateException if it is LOCKED");
        refusedAll(fresh, STATE, new int[] {0, 1, 2}, 0, "get", 0, 0, -1);
        refusedAll(busy, STATE, new int[] {-2, -1, 0, 1}, 2, "get", 2, 2, 0);
        checks.about("promise 6: NONE if there is none such");
        refusedAll(open, NONE, Edges.outside(-1, -1), 2, "get", 0, 0, 0);
        refusedAll(busy, NONE, Edges.outside(-1, 0), 2, "get", 0, 3, 0);
        checks.about("promise 6: if k is -1, how many there are (0 or more)");
        refusedAll(open, 0, new int[] {0, 1, 2, 3}, 1, "get", 0, 0, -1);
        refusedAll(busy, 1, new int[] {0, 3}, 1, "get", 0, 0, -1);
    }

    private void change() {
        checks.about("promise 7: IllegalArgumentException if there is no such device or password");
        for (Run run : new Run[] {fresh, open, busy}) {
            refusedAll(run, ARGUMENT, NO_DEVICE, 0, "change", 0, 0);
            refusedAll(run, ARGUMENT, NO_PASSWORD, 1, "change", 0, 0);
            refusedAll(run, ARGUMENT, NO_PASSWORD, 1, "change", 2, 0);
        }
        checks.about("promise 7: IllegalStateException if it is LOCKED");
        refusedAll(fresh, STATE, new int[] {0, 1, 2}, 0, "change", 0, 1);
        refusedAll(busy, STATE, new int[] {0, 7}, 1, "change", 2, 0);
        checks.about("promise 7: FULL if it is 30");
        for (int d = 0; d < 3; d++) {
            refusedAll(Edges.generation(d, 30), FULL, new int[] {0, 6, 7}, 1, "change", d, 0);
        }
    }

    private void pull() {
        checks.about("promise 8: IllegalArgumentException if there is no such device");
        for (Run run : new Run[] {fresh, open, busy}) {
            refusedAll(run, ARGUMENT, NO_DEVICE, 0, "pull", 0);
        }
        checks.about("promise 8: IllegalStateException if it is LOCKED");
        refusedAll(fresh, STATE, new int[] {0, 1, 2}, 0, "pull", 0);
        refused(busy, STATE, "pull", 2);
    }

    private void push() {
        checks.about("promise 9: IllegalArgumentException if there is no such device");
        for (Run run : new Run[] {fresh, open, busy}) {
            refusedAll(run, ARGUMENT, NO_DEVICE, 0, "push", 0);
        }
        checks.about("promise 9: IllegalStateException if it is LOCKED");
        refusedAll(fresh, STATE, new int[] {0, 1, 2}, 0, "push", 0);
        refused(busy, STATE, "push", 2);
    }

    private void deliverAndDrop() {
        for (String name : new String[] {"deliver", "drop"}) {
            checks.about("promises 10 and 11: false if there is none such, " + name);
            refusedAll(fresh, NO, Edges.outside(1, 0), 0, name, 0);
            refused(fresh, NO, name, 0);
            refusedAll(busy, NO, Edges.outside(0, flight - 1), 0, name, 0);
            refusedAll(Edges.mail(12), NO, Edges.outside(0, 11), 0, name, 0);
        }
    }

    private void message() {
        checks.about("promise 12: NONE if there is no such message, w or term");
        for (int w = 0; w < 4; w++) {
            refusedAll(fresh, NONE, Edges.outside(1, 0), 0, "message", 0, w);
            refusedAll(busy, NONE, Edges.outside(0, flight - 1), 0, "message", 0, w);
        }
        for (int m = 0; m < flight; m++) {
            refusedAll(busy, NONE, Edges.outside(0, 3), 1, "message", m, 0);
        }
        refused(busy, NONE, "message", 1, 2);
        refusedAll(busy, NONE, new int[] {2, 3}, 1, "message", 2, 0);
        refused(busy, NONE, "message", 3, 2);
        refused(open.then("pull", 0).then("deliver", 0), NONE, "message", 0, 3);
    }

    private void forge() {
        checks.about("promise 14: false if there is no such device or term");
        refusedAll(busy, NO, NO_DEVICE, 0, "forge", 0, 0);
        refusedAll(fresh, NO, Edges.outside(1, 0), 1, "forge", 0, 0);
        refusedAll(busy, NO, Edges.outside(0, terms - 1), 1, "forge", 0, 0);
        checks.about("promise 14: false if t is not KNOWN");
        for (int hidden : hidden()) {
            refusedAll(busy, NO, new int[] {0, 1, 2}, 0, "forge", 0, hidden);
        }
        checks.about("promise 14: false if 12 messages are under way");
        refusedAll(Edges.mail(12).then("leak", 0), NO, new int[] {0, 1, 2}, 0, "forge", 0, 0);
        checks.due("forge with 11 under way", Edges.mail(11).then("leak", 0).answer("forge", 0, 0), 1);
    }

    /** The SECRET, the VAULT key, a header's KEY, a password, the key of an item and a content. */
    private int[] hidden() {
        VaultDevices played = busy.played();
        int key = played.atom(8) + 1;
        checks.due("the KEY stands behind the SECRET", played.term(key, 0), 2);
        return new int[] {played.atom(8), played.atom(9), key, played.atom(0), played.atom(10), played.atom(101)};
    }

    private void plant() {
        checks.about("promise 15: false if there is no such term or it is not KNOWN");
        refusedAll(fresh, NO, Edges.outside(1, 0), 0, "plant", 0);
        refusedAll(busy, NO, Edges.outside(0, terms - 1), 0, "plant", 0);
        refusedAll(busy, NO, hidden(), 0, "plant", 0);
    }

    private void build() {
        checks.about("promise 16: NONE if there is no such kind or term");
        refusedAll(busy, NONE, Edges.outside(2, 5), 0, "build", 0, 0, 0);
        for (int kind = 2; kind <= 5; kind++) {
            refusedAll(fresh, NONE, Edges.outside(1, 0), 1, "build", kind, 0, 0);
            refusedAll(busy, NONE, Edges.outside(0, terms - 1), 1, "build", kind, 0, 0);
            refusedAll(busy, NONE, Edges.outside(0, terms - 1), 2, "build", kind, 0, 0);
        }
        checks.about("promise 16: NONE if x or y is not KNOWN");
        for (int kind = 2; kind <= 5; kind++) {
            refusedAll(busy, NONE, hidden(), 1, "build", kind, 0, 0);
            refusedAll(busy, NONE, hidden(), 2, "build", kind, 0, 0);
        }
        int secret = busy.answer("atom", 8);
        checks.about("promise 16: also of what is there already");
        refused(busy, NONE, "build", 2, busy.answer("atom", 0), secret);
        refused(busy.then("leak", 8), NONE, "build", 2, busy.answer("atom", 0), secret);
        checks.due("build of a header's KEY", busy.then("leak", 8).then("leak", 0).answer("build", 2,
                busy.answer("atom", 0), secret), secret + 1);
    }

    private void leak() {
        checks.about("promise 17: NONE if n is not 0 .. 8");
        for (Run run : new Run[] {fresh, busy}) {
            refusedAll(run, NONE, Edges.outside(0, 8), 0, "leak", 0);
            refusedAll(run, NONE, new int[] {9, 10, 13, 100, 163}, 0, "leak", 0);
        }
    }

    private void steal() {
        checks.about("promise 18: NONE if there is no such device");
        for (Run run : new Run[] {fresh, busy}) {
            refusedAll(run, NONE, NO_DEVICE, 0, "steal", 0);
        }
    }

    private void known() {
        checks.about("promise 19: false if there is none such");
        refusedAll(fresh, NO, Edges.outside(1, 0), 0, "known", 0);
        refused(fresh, NO, "known", 0);
        refusedAll(busy, NO, Edges.outside(0, terms - 1), 0, "known", 0);
        refusedAll(busy, NO, hidden(), 0, "known", 0);
        refusedAll(Edges.terms(900), NO, Edges.outside(0, 899), 0, "known", 0);
    }

    private void term() {
        checks.about("promise 20: NONE if there is no such term or w, or it has no y");
        for (int w = 0; w < 3; w++) {
            refusedAll(fresh, NONE, Edges.outside(1, 0), 0, "term", 0, w);
            refusedAll(busy, NONE, Edges.outside(0, terms - 1), 0, "term", 0, w);
        }
        refusedAll(busy, NONE, Edges.outside(0, 2), 1, "term", 0, 0);
        refusedAll(busy, NONE, Edges.outside(0, 2), 1, "term", terms - 1, 0);
        refused(busy, NONE, "term", 0, 2);
        refused(busy, NONE, "term", busy.answer("atom", 8), 2);
    }

    private void atom() {
        checks.about("promise 21: NONE if it has not been made");
        refusedAll(fresh, NONE, Edges.outside(1, 0), 0, "atom", 0);
        for (Run run : new Run[] {open, busy}) {
            refusedAll(run, NONE, Edges.outside(0, 163), 0, "atom", 0);
        }
        refusedAll(busy, NONE, new int[] {1, 2, 5, 6, 7, 12, 14, 99, 100, 103, 162}, 0, "atom", 0);
    }

    private void device() {
        checks.about("promise 22: NONE if there is no such device, w or BASE");
        for (int w = 0; w <= 10; w++) {
            refusedAll(busy, NONE, NO_DEVICE, 0, "device", 0, w);
        }
        for (int d = 0; d < 3; d++) {
            refusedAll(busy, NONE, Edges.outside(0, 10), 1, "device", d, 0);
            refused(fresh, NONE, "device", d, 10);
        }
        refused(busy, NONE, "device", 1, 10);
    }

    /** A new state of device 1 takes 14 terms: all that has less room than that is FULL, whichever term is the last. */
    private void termsFull() {
        for (int there = 886; there <= 900; there++) {
            Run run = Edges.terms(there).then("put", 1, 0, 1);
            for (String name : new String[] {"push", "steal"}) {
                checks.about("promises 9 and 18: FULL, and no term made; " + name + " with " + there + " terms");
                if (there <= 886) {
                    checks.due(name, run.answer(name, 1), 899);
                } else {
                    refused(run, FULL, name, 1);
                }
            }
        }
        checks.about("promises 16 and 17: FULL, and no term made");
        Run run = Edges.terms(900);
        for (int kind = 2; kind <= 5; kind++) {
            refused(run, FULL, "build", kind, 899, 899);
        }
        refusedAll(run, FULL, new int[] {1, 2, 3, 4, 5, 6, 7}, 0, "leak", 0);
    }
}
