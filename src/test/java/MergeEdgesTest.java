/** ABOVE, knowing a dot, and MERGE: each comparison with less, equal and more, by forged states. */
public final class MergeEdgesTest extends Forger {
    private static final int NONE = -1;

    public static void main(String[] args) {
        MergeEdgesTest test = new MergeEdgesTest();
        test.above();
        test.aboveCountsOnlyAcked();
        test.ackedBecomesTheVector();
        test.knownDots();
        test.dotsOfEachDevice();
        test.counts();
        test.headers();
        test.headersAtTheEdges();
        test.lockedAfterwards();
        test.orderBehindAMerge();
        test.sameDotOtherContent();
        test.checks.end();
    }

    private void above() {
        for (int v = 0; v < 27; v++) {
            int[] vector = {v % 3, v / 3 % 3, v / 9};
            start("a vector is ABOVE another one if none of its counts is less: " + v % 3 + " " + v / 3 % 3 + " " + v / 9);
            taken("1 1 1", plain(vector(1, 1, 1), entries()), true);
            int seal = sealed(state(2, 2, header, vector, entries()));
            boolean fits = vector[0] >= 1 && vector[1] >= 1 && vector[2] >= 1;
            taken("the vector", seal, fits);
            for (int d = 0; d < 3; d++) {
                checks.due("ACKED of " + d, x.call("device", 0, 4 + d), fits ? vector[d] : 1);
                checks.due("the count of " + d, x.call("device", 0, 1 + d), fits ? Math.max(1, vector[d]) : 1);
            }
            checks.due("device(0, 7)", x.call("device", 0, 7), fits ? 2 : 1);
        }
    }

    private void aboveCountsOnlyAcked() {
        start("the vector must be ABOVE the device's ACKED one, not its own");
        x.call("put", 0, 0, 1);
        x.call("put", 0, 0, 2);
        int seal = plain(vector(1, 0, 0), entries());
        taken("1 0 0, less than its own", seal, true);
        checks.due("ACKED", x.call("device", 0, 4), 1);
        checks.due("its own count", x.call("device", 0, 1), 2);
        checks.due("get(0, 0, 0)", x.call("get", 0, 0, 0), 2);
        taken("0 0 0, less than ACKED", plain(vector(0, 0, 0), entries()), false);
    }

    private void ackedBecomesTheVector() {
        start("ACKED becomes its vector, BASE that term");
        x.call("put", 0, 0, 1);
        int seal = plain(vector(0, 3, 2), entries());
        taken("0 3 2", seal, true);
        int[] want = {0, 1, 3, 2, 0, 3, 2};
        for (int w = 0; w < want.length; w++) {
            checks.due("device(0, " + w + ")", x.call("device", 0, w), want[w]);
        }
        int other = sealed(state(0, 2, header, vector(0, 3, 2), entries()));
        taken("another one with an equal vector", other, true);
        taken("the first one again", seal, true);
    }

    /** Device 1 comes to the count, with or without the entry of its second dot (item 1, content 51). */
    private void edits(int count, boolean has) {
        if (count >= 1) {
            x.call("put", 1, 0, 7);
        }
        if (count >= 2) {
            x.call(has ? "put" : "erase", has ? new int[] {1, 1, 51} : new int[] {1, 0});
        }
        if (count >= 3) {
            x.call("put", 1, 2, 9);
        }
    }

    private void knownDots() {
        for (int own = 0; own <= 3; own++) {
            for (int other = 0; other <= 3; other++) {
                for (int which = 0; which < 4; which++) {
                    boolean has = which % 2 == 1;
                    boolean otherHas = which / 2 == 1;
                    if (own >= 2 || !has) {
                        knownDots(own, has, other, otherHas);
                    }
                }
            }
        }
    }

    private void knownDots(int own, boolean has, int other, boolean otherHas) {
        start("an entry of A stays if B has it or does not know its dot, one of B comes if A does not know its dot: A "
                + own + " " + has + ", B " + other + " " + otherHas);
        edits(own, has);
        int list = otherHas ? entries(entry(1, 1, 2, box1)) : entries();
        int seal = plain(vector(0, other, 0), list);
        boolean proper = other >= 2 || !otherHas;
        x.call("forge", 1, seal);
        x.call("deliver", 0);
        checks.due("it is taken", x.call("device", 1, 10), proper ? seal : NONE);
        boolean stays = has && (!proper || otherHas || other < 2);
        boolean comes = proper && otherHas && own < 2;
        checks.due("get(1, 1, -1)", x.call("get", 1, 1, -1), stays || comes ? 1 : 0);
        checks.due("get(1, 1, 0)", x.call("get", 1, 1, 0), stays || comes ? 51 : NONE);
        checks.due("the count", x.call("device", 1, 2), proper ? Math.max(own, other) : own);
        boolean first = own == 1 || own >= 2 && has;
        checks.due("get(1, 0, -1), of its first dot", x.call("get", 1, 0, -1), first && (!proper || other == 0) ? 1 : 0);
    }

    private void dotsOfEachDevice() {
        for (int d = 0; d < 3; d++) {
            start("a state knows a dot by its vector's count for that device, " + d);
            int[] all = {3, 3, 3};
            taken("one with the dot of " + d, plain(vector(d == 0 ? 2 : 0, d == 1 ? 2 : 0, d == 2 ? 2 : 0),
                    entries(entry(0, d, 2, box0))), true);
            checks.due("it came", x.call("get", 0, 0, 0), 50);
            int[] others = {d == 0 ? 2 : 3, d == 1 ? 2 : 3, d == 2 ? 2 : 3};
            taken("one that has it still", plain(others, entries(entry(0, d, 2, box0))), true);
            checks.due("it stays", x.call("get", 0, 0, -1), 1);
            taken("one that has it no more", plain(all, entries()), true);
            checks.due("it goes", x.call("get", 0, 0, -1), 0);
            taken("one that has it again", plain(all, entries(entry(0, d, 2, box0))), true);
            checks.due("it does not come again", x.call("get", 0, 0, -1), 0);
        }
    }

    private void counts() {
        start("of each count of the vectors the greater one is taken");
        x.call("put", 0, 0, 1);
        x.call("put", 0, 1, 1);
        taken("1 3 0", plain(vector(1, 3, 0), entries()), true);
        taken("2 3 5", plain(vector(2, 3, 5), entries()), true);
        x.call("put", 0, 1, 1);
        taken("2 4 5", plain(vector(2, 4, 5), entries()), true);
        int[] want = {3, 4, 5, 2, 4, 5};
        for (int w = 1; w <= 6; w++) {
            checks.due("device(0, " + w + ")", x.call("device", 0, w), want[w - 1]);
        }
    }

    private int boxOf(int password) {
        int key = x.call("build", KEY, x.call("leak", password), atom(8));
        return x.call("build", BOX, key, atom(9));
    }

    private void header(int d, int generation, int owner, int password) {
        checks.due("generation", x.call("device", d, 7), generation);
        checks.due("device of the header", x.call("device", d, 8), owner);
        x.call("lock", d);
        for (int p = 0; p < 8; p++) {
            checks.due("password " + p, x.call("unlock", d, p), p == password ? 1 : 0);
        }
    }

    private void headers() {
        for (int g = 1; g <= 3; g++) {
            for (int pair = 0; pair < 9; pair++) {
                int own = pair % 3;
                int other = pair / 3;
                start("the header with the greater generation stays, of equal ones that of the lesser device: 2 of "
                        + own + " and " + g + " of " + other);
                taken("the first", sealed(state(2, own, boxOf(1), vector(0, 0, 0), entries())), true);
                header(0, 2, own, 1);
                taken("the second", sealed(state(g, other, boxOf(2), vector(0, 0, 0), entries())), true);
                if (g > 2 || g == 2 && other < own) {
                    header(0, g, other, 2);
                } else {
                    header(0, 2, own, 1);
                }
            }
        }
    }

    private void headersAtTheEdges() {
        start("A's header, if these are the same, too");
        taken("generation 0 of device 0", sealed(state(0, 0, boxOf(7), vector(0, 0, 0), entries())), true);
        header(0, 0, 0, 0);
        taken("generation 0 of device 2", sealed(state(0, 2, boxOf(7), vector(0, 0, 0), entries())), true);
        header(0, 0, 0, 0);
        taken("generation 1 of device 2", sealed(state(1, 2, boxOf(7), vector(0, 0, 0), entries())), true);
        header(0, 1, 2, 7);
        startUpTo("generations of 29 and 30", 30);
        taken("29", sealed(state(29, 0, boxOf(1), vector(0, 0, 0), entries())), true);
        taken("30", sealed(state(30, 2, boxOf(2), vector(0, 0, 0), entries())), true);
        header(0, 30, 2, 2);
        taken("29 again", sealed(state(29, 0, boxOf(1), vector(0, 0, 0), entries())), true);
        header(0, 30, 2, 2);
        taken("30 of device 1", sealed(state(30, 1, boxOf(3), vector(0, 0, 0), entries())), true);
        header(0, 30, 1, 3);
        checks.due("change(0, 0)", x.call("change", 0, 0), -2);
    }

    private void lockedAfterwards() {
        start("the device stays open whatever its header is then");
        taken("password 5", sealed(state(1, 2, boxOf(5), vector(0, 0, 0), entries())), true);
        checks.due("device(0, 0)", x.call("device", 0, 0), 0);
        checks.due("put(0, 0, 0)", x.call("put", 0, 0, 0), 1);
        x.call("lock", 0);
        checks.due("unlock(0, 0)", x.call("unlock", 0, 0), 0);
        int seal = plain(vector(0, 0, 1), entries());
        x.call("forge", 0, seal);
        x.call("deliver", 0);
        checks.due("a LOCKED one takes nothing", x.call("device", 0, 6), 0);
        checks.due("and stays LOCKED", x.call("device", 0, 0), 1);
    }

    /** Items, of one item devices, of these counts: the device's own entry stands between those that come. */
    private void orderBehindAMerge() {
        start("promise 6: the k-th entry, in their order");
        x.call("put", 1, 0, 9);
        int list = entries(entry(0, 0, 2, box0), entry(0, 0, 3, box0), entry(0, 2, 1, box0), entry(1, 0, 1, box1));
        x.call("forge", 1, plain(vector(3, 0, 1), list));
        x.call("deliver", 0);
        int[] want = {50, 50, 9, 50, NONE};
        for (int k = 0; k < want.length; k++) {
            checks.due("get(1, 0, " + k + ")", x.call("get", 1, 0, k), want[k]);
        }
        checks.due("get(1, 0, -1)", x.call("get", 1, 0, -1), 4);
        checks.due("get(1, 1, 0)", x.call("get", 1, 1, 0), 51);
        int seal = x.call("steal", 1);
        checks.due("its state is a SEAL", x.call("forge", 0, seal), 1);
        x.call("deliver", 0);
        checks.due("device(0, 10)", x.call("device", 0, 10), seal);
        checks.due("get(0, 0, 2)", x.call("get", 0, 0, 2), 9);
    }

    /** "An ENTRY is an item with a content and a DOT": with another content it is another one, which B does not have. */
    private void sameDotOtherContent() {
        start("an entry of A stays if B has it: the same dot with another content is another entry");
        x.call("put", 0, 0, 9);
        taken("the dot with another content", plain(vector(1, 0, 0), entries(entry(0, 0, 1, box0))), true);
        checks.due("get(0, 0, -1)", x.call("get", 0, 0, -1), 0);
        start("an entry of A stays if B has it: the same dot with the same content");
        x.call("put", 0, 0, 50);
        taken("the dot with the same content", plain(vector(1, 0, 0), entries(entry(0, 0, 1, box0))), true);
        checks.due("get(0, 0, 0)", x.call("get", 0, 0, 0), 50);
    }
}
