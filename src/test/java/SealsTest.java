/** What is a SEAL and what only looks like one, by states that somebody made of what is KNOWN. */
public final class SealsTest extends Forger {
    public static void main(String[] args) {
        SealsTest test = new SealsTest();
        test.plainOnes();
        test.shapes();
        test.marks();
        test.headers();
        test.headerBoxes();
        test.vectors();
        test.orders();
        test.dots();
        test.entryShapes();
        test.sameDotElsewhere();
        test.manyEntries();
        test.putWhereTwelveAre();
        test.mergeOfTooMany();
        test.equalHeaders();
        test.checks.end();
    }

    private void plainOnes() {
        start("SEALs that somebody made");
        int empty = plain(vector(0, 0, 0), entries());
        taken("a state without entries", empty, true);
        checks.due("device(0, 7)", x.call("device", 0, 7), 1);
        checks.due("device(0, 8)", x.call("device", 0, 8), 2);
        taken("one with an entry", plain(vector(0, 1, 0), entries(entry(0, 1, 1, box0))), true);
        checks.due("get(0, 0, 0)", x.call("get", 0, 0, 0), 50);
        int three = entries(entry(0, 1, 1, box0), entry(1, 0, 3, box1), entry(2, 0, 2, box2));
        taken("one with three", plain(vector(3, 1, 0), three), true);
        checks.due("device(0, 9)", x.call("device", 0, 9), 3);
        checks.due("device(0, 1)", x.call("device", 0, 1), 3);
        checks.due("device(0, 4)", x.call("device", 0, 4), 3);
        checks.due("put(0, 3, 1) counts on from there", x.call("put", 0, 3, 1), 4);
    }

    private void shapes() {
        start("terms of another shape");
        int good = state(0, 0, header, vector(0, 0, 0), entries());
        int mark = x.call("build", MARK, atom(9), good);
        taken("a state without its MARK", good, false);
        taken("a MARK alone", mark, false);
        taken("MARK before state", pair(mark, good), false);
        taken("a KEY of both", x.call("build", 2, good, mark), false);
        taken("a NUMBER", number(0), false);
        taken("an ATOM", atom(0), false);
        int wrongEnd = state(0, 0, header, vector(0, 0, 0), number(1));
        taken("NUMBER 1 as the entries", sealed(wrongEnd), false);
        int atomEnd = state(0, 0, header, vector(0, 0, 0), atom(0));
        taken("ATOM 0 as the entries", sealed(atomEnd), false);
        int shortOne = pair(number(0), pair(number(0), pair(header, pair(number(0), pair(number(0), number(0))))));
        taken("a vector of two", sealed(shortOne), false);
        int longOne = pair(number(0), good);
        taken("a part too many", sealed(longOne), false);
        taken("a SEAL of a SEAL", sealed(sealed(good)), false);
        taken("the state, sealed", sealed(good), true);
    }

    private void marks() {
        start("other MARKs");
        int good = state(0, 0, header, vector(0, 0, 0), entries());
        int other = state(0, 1, header, vector(0, 0, 0), entries());
        taken("a MARK under the secret", pair(good, x.call("build", MARK, atom(8), good)), false);
        taken("a MARK under NUMBER 9", pair(good, x.call("build", MARK, number(9), good)), false);
        taken("a MARK of another state", pair(good, x.call("build", MARK, atom(9), other)), false);
        taken("a BOX for a MARK", pair(good, x.call("build", 3, atom(9), good)), false);
        taken("a PAIR for a MARK", pair(good, pair(atom(9), good)), false);
        taken("the MARK of it", sealed(good), true);
    }

    private void headers() {
        start("generations and devices of headers");
        taken("device 3", sealed(state(1, 3, header, vector(0, 0, 0), entries())), false);
        int atomForNumber = pair(atom(0), x.call("term", state(0, 0, header, vector(0, 0, 0), entries()), 2));
        taken("an ATOM as the generation", sealed(atomForNumber), false);
        int tail = x.call("term", x.call("term", state(0, 0, header, vector(0, 0, 0), entries()), 2), 2);
        taken("an ATOM as the device", sealed(pair(number(0), pair(atom(0), tail))), false);
        taken("device 2 of generation 0", sealed(state(0, 2, header, vector(0, 0, 0), entries())), true);
        checks.due("device(0, 8), as device 0's header stays", x.call("device", 0, 8), 0);
        taken("device 1 of generation 13", sealed(state(13, 1, header, vector(0, 0, 0), entries())), true);
        checks.due("device(0, 7)", x.call("device", 0, 7), 13);
        checks.due("device(0, 8)", x.call("device", 0, 8), 1);
    }

    private void headerBoxes() {
        start("boxes of headers");
        int secretTwice = x.call("build", 2, atom(8), atom(8));
        int vaultAsPassword = x.call("build", 2, atom(9), atom(8));
        int turned = x.call("build", 2, atom(8), atom(0));
        int numberKey = x.call("build", 2, number(0), atom(8));
        int noSecret = x.call("build", 2, atom(0), atom(0));
        int vaultAsSecret = x.call("build", 2, atom(0), atom(9));
        int numberAsSecret = x.call("build", 2, atom(0), number(8));
        int key = x.call("build", 2, atom(0), atom(8));
        for (int bad : new int[] {secretTwice, vaultAsPassword, turned, numberKey, noSecret, vaultAsSecret, numberAsSecret,
            atom(8), number(0), pair(atom(0), atom(8))}) {
            int box = x.call("build", 3, bad, atom(9));
            taken("a box under term " + bad, sealed(state(1, 1, box, vector(0, 0, 0), entries())), false);
        }
        for (int bad : new int[] {atom(8), number(9), key}) {
            int box = x.call("build", 3, key, bad);
            taken("a box of term " + bad, sealed(state(1, 1, box, vector(0, 0, 0), entries())), false);
        }
        taken("a content's box", sealed(state(1, 1, box0, vector(0, 0, 0), entries())), false);
        taken("the key itself", sealed(state(1, 1, key, vector(0, 0, 0), entries())), false);
        int mark = x.call("build", MARK, key, atom(9));
        taken("a MARK for a box", sealed(state(1, 1, mark, vector(0, 0, 0), entries())), false);
        int seven = x.call("leak", 7);
        int boxOfSeven = x.call("build", 3, x.call("build", 2, seven, atom(8)), atom(9));
        taken("another password", sealed(state(1, 1, boxOfSeven, vector(0, 0, 0), entries())), true);
        x.call("lock", 0);
        checks.due("unlock(0, 0)", x.call("unlock", 0, 0), 0);
        checks.due("unlock(0, 7)", x.call("unlock", 0, 7), 1);
    }

    private void vectors() {
        start("vectors");
        int tail = pair(number(1), pair(atom(0), entries()));
        int bad = pair(number(0), pair(number(0), pair(header, pair(number(0), tail))));
        taken("an ATOM as a count", sealed(bad), false);
        taken("2 2 2", plain(vector(2, 2, 2), entries()), true);
        taken("1 2 2", plain(vector(1, 2, 2), entries()), false);
        taken("2 1 2", plain(vector(2, 1, 2), entries()), false);
        taken("3 3 1", plain(vector(3, 3, 1), entries()), false);
        checks.due("device(0, 1)", x.call("device", 0, 1), 2);
        taken("2 3 2", plain(vector(2, 3, 2), entries()), true);
        checks.due("device(0, 5)", x.call("device", 0, 5), 3);
        checks.due("device(0, 2)", x.call("device", 0, 2), 3);
        taken("13 13 13", plain(vector(13, 13, 13), entries()), true);
        checks.due("put(0, 0, 0)", x.call("put", 0, 0, 0), 14);
    }

    private void orders() {
        start("orders of entries");
        int[] all = vector(3, 3, 3);
        int early = entry(0, 0, 2, box0);
        int late = entry(0, 0, 3, box0);
        int third = entry(0, 1, 1, box0);
        int other = entry(1, 0, 1, box1);
        taken("counts the wrong way", plain(all, entries(late, early)), false);
        taken("devices the wrong way", plain(all, entries(third, early)), false);
        taken("items the wrong way", plain(all, entries(other, early)), false);
        taken("one in the wrong place of four", plain(all, entries(early, third, late, other)), false);
        taken("an entry twice", plain(all, entries(early, early)), false);
        taken("all in order", plain(all, entries(early, late, third, other)), true);
        checks.due("get(0, 0, -1)", x.call("get", 0, 0, -1), 3);
        checks.due("get(0, 1, -1)", x.call("get", 0, 1, -1), 1);
    }

    private void dots() {
        start("dots of entries");
        int first = entry(0, 1, 1, box0);
        int same = entry(1, 1, 1, box1);
        taken("a dot twice", plain(vector(3, 3, 3), entries(first, same)), false);
        taken("a dot twice, with one between", plain(vector(3, 3, 3), entries(first, entry(0, 1, 2, box0), same)), false);
        taken("a dot with count 0", plain(vector(3, 3, 3), entries(entry(0, 1, 0, box0))), false);
        taken("a dot with count 0 of 0", plain(vector(0, 0, 0), entries(entry(0, 1, 0, box0))), false);
        taken("a dot that it does not know", plain(vector(3, 1, 3), entries(entry(0, 1, 2, box0))), false);
        for (int device = 3; device <= 13; device++) {
            taken("a dot of device " + device, plain(vector(13, 13, 13), entries(entry(0, device, 1, box0))), false);
            taken("a dot of device " + device + " for item 1", plain(vector(13, 13, 13), entries(entry(1, device, 1, box1))), false);
        }
        taken("a dot that it just knows", plain(vector(0, 2, 0), entries(entry(0, 1, 2, box0))), true);
    }

    private void entryShapes() {
        start("entries of another shape");
        int[] all = vector(3, 3, 3);
        taken("a box of another item", plain(all, entries(entry(1, 0, 1, box0))), false);
        taken("a box of another item, the other way", plain(all, entries(entry(0, 0, 1, box1))), false);
        taken("item 4", plain(all, entries(entry(4, 0, 1, box0))), false);
        taken("the header's box", plain(all, entries(entry(0, 0, 1, header))), false);
        taken("a NUMBER for a box", plain(all, entries(entry(0, 0, 1, number(0)))), false);
        int mark = x.call("build", MARK, box0, box0);
        taken("a MARK for a box", plain(all, entries(entry(0, 0, 1, mark))), false);
        int shortOne = pair(number(0), pair(number(0), box0));
        taken("an entry without a count", plain(all, entries(shortOne)), false);
        int longOne = pair(number(0), pair(number(0), pair(number(1), pair(box0, number(0)))));
        taken("an entry with a part too many", plain(all, entries(longOne)), false);
        int atomItem = pair(atom(0), pair(number(0), pair(number(1), box0)));
        taken("an ATOM as the item", plain(all, entries(atomItem)), false);
        taken("an entry alone where a list is due", plain(all, entry(0, 0, 1, box0)), false);
        taken("a list that ends with its last entry", plain(all, pair(entry(0, 0, 1, box0), entry(0, 0, 2, box0))), false);
        taken("a NUMBER for an entry", plain(all, entries(number(1))), false);
        taken("one as it should be", plain(all, entries(entry(0, 0, 1, box0))), true);
    }

    /** An ENTRY is an item with a content and a dot: with another content it is not the same one. */
    private void sameDotElsewhere() {
        start("an entry with the same dot and another item");
        checks.due("put(0, 0, 9)", x.call("put", 0, 0, 9), 1);
        taken("the dot with item 1", plain(vector(1, 0, 0), entries(entry(1, 0, 1, box1))), true);
        checks.due("the device's entry goes", x.call("get", 0, 0, -1), 0);
        checks.due("the other one does not come", x.call("get", 0, 1, -1), 0);
        checks.due("device(0, 9)", x.call("device", 0, 9), 0);
    }

    private void manyEntries() {
        start("12 entries and 13");
        int[] made = many(0, 2, 13, box0);
        taken("13 entries", plain(vector(0, 0, 13), entries(made)), false);
        checks.due("device(0, 9)", x.call("device", 0, 9), 0);
        int twelve = entries(java.util.Arrays.copyOf(made, 12));
        taken("12 entries", plain(vector(0, 0, 13), twelve), true);
        checks.due("device(0, 9)", x.call("device", 0, 9), 12);
        checks.due("get(0, 0, -1)", x.call("get", 0, 0, -1), 12);
        checks.due("get(0, 0, 11)", x.call("get", 0, 0, 11), 50);
        checks.due("get(0, 0, 12)", x.call("get", 0, 0, 12), -1);
    }

    private void putWhereTwelveAre() {
        start("promise 4, put where 12 entries are");
        taken("12 entries", plain(vector(0, 0, 12), entries(many(0, 2, 12, box0))), true);
        checks.due("put(0, 1, 5)", x.call("put", 0, 1, 5), -2);
        checks.due("device(0, 1)", x.call("device", 0, 1), 0);
        checks.due("get(0, 1, -1)", x.call("get", 0, 1, -1), 0);
        checks.due("erase(0, 1)", x.call("erase", 0, 1), -1);
        checks.due("put(0, 0, 5)", x.call("put", 0, 0, 5), 1);
        checks.due("device(0, 9)", x.call("device", 0, 9), 1);
        checks.due("put(0, 1, 5) then", x.call("put", 0, 1, 5), 2);
    }

    private void mergeOfTooMany() {
        start("promise 10, a merge that would give more than 12 entries");
        checks.due("put(0, 1, 7)", x.call("put", 0, 1, 7), 1);
        int eleven = plain(vector(0, 0, 11), entries(many(0, 2, 11, box0)));
        int twelve = sealed(state(5, 0, header, vector(0, 2, 12), entries(many(0, 2, 12, box0))));
        taken("12 entries beside one", twelve, false);
        int[] want = {0, 1, 0, 0, 0, 0, 0, 0, 0, 1, -1};
        for (int w = 0; w < want.length; w++) {
            checks.due("device(0, " + w + ")", x.call("device", 0, w), want[w]);
        }
        checks.due("get(0, 1, 0)", x.call("get", 0, 1, 0), 7);
        checks.due("get(0, 0, -1)", x.call("get", 0, 0, -1), 0);
        taken("11 entries beside one", eleven, true);
        checks.due("device(0, 9)", x.call("device", 0, 9), 12);
        checks.due("erase(0, 1)", x.call("erase", 0, 1), 1);
        taken("12 entries when there is room", twelve, true);
        checks.due("device(0, 9)", x.call("device", 0, 9), 12);
        checks.due("device(0, 7)", x.call("device", 0, 7), 5);
    }

    private void equalHeaders() {
        start("of equal headers the device's own stays");
        int seven = x.call("leak", 7);
        int boxOfSeven = x.call("build", 3, x.call("build", 2, seven, atom(8)), atom(9));
        checks.due("change(0, 0)", x.call("change", 0, 0), 1);
        taken("another password", sealed(state(1, 0, boxOfSeven, vector(0, 0, 0), entries())), true);
        x.call("lock", 0);
        checks.due("unlock(0, 7)", x.call("unlock", 0, 7), 0);
        checks.due("unlock(0, 0)", x.call("unlock", 0, 0), 1);
    }
}
