/** "A term is a SEAL if it is the one of some state": every part of a state at its least and greatest, and beyond. */
public final class SealEdgesTest extends Forger {
    private static final int STATE_PARTS = 6;

    public static void main(String[] args) {
        SealEdgesTest test = new SealEdgesTest();
        test.otherKindsInTheState();
        test.otherKindsInAnEntry();
        test.headerDevices();
        test.generations();
        test.passwords();
        test.counts();
        test.dots();
        test.dotsThatAreKnown();
        test.dotsTwice();
        test.items();
        test.contents();
        test.numbersOfEntries();
        test.twelveOfAllItems();
        test.neighboursInOrder();
        test.endOfEntries();
        test.markOfAnotherVault();
        test.lockedDevice();
        test.checks.end();
    }

    private int[] stateParts(int[] vector) {
        return new int[] {number(1), number(2), header, number(vector[0]), number(vector[1]), number(vector[2])};
    }

    private int list(int[] parts, int end) {
        int list = end;
        for (int i = parts.length - 1; i >= 0; i--) {
            list = pair(parts[i], list);
        }
        return list;
    }

    /** An ATOM with the same n, a KEY, a PAIR and a MARK in the place of each part. */
    private int[] others(int part) {
        int n = x.call("term", part, 0) == 1 ? x.call("term", part, 1) : 0;
        int atom = x.call("leak", n);
        return new int[] {atom, x.call("build", KEY, part, part), pair(part, part), x.call("build", MARK, part, part),
            x.call("build", BOX, part, part)};
    }

    private void otherKindsInTheState() {
        for (int place = 0; place < STATE_PARTS; place++) {
            start("a state's numbers are NUMBERs and its box is a BOX, place " + place);
            int[] parts = stateParts(vector(1, 1, 1));
            for (int other : others(parts[place])) {
                int[] wrong = parts.clone();
                wrong[place] = other;
                taken("term " + other + " in place " + place, sealed(list(wrong, number(0))), false);
            }
            taken("what is due there", sealed(list(parts, number(0))), true);
        }
    }

    private void otherKindsInAnEntry() {
        for (int place = 0; place < 4; place++) {
            start("an entry's numbers are NUMBERs and its box is a BOX, place " + place);
            int[] parts = {number(0), number(1), number(2), box0};
            for (int other : others(parts[place])) {
                int[] wrong = parts.clone();
                wrong[place] = other;
                int entry = pair(wrong[0], pair(wrong[1], pair(wrong[2], wrong[3])));
                taken("term " + other + " in place " + place, plain(vector(3, 3, 3), entries(entry)), false);
            }
            taken("what is due there", plain(vector(3, 3, 3), entries(entry(0, 1, 2, box0))), true);
        }
    }

    private void headerDevices() {
        for (int owner = 0; owner <= 4; owner++) {
            start("a HEADER has a device 0 .. 2: " + owner);
            taken("the state", sealed(state(1, owner, header, vector(0, 0, 0), entries())), owner <= 2);
        }
    }

    private void generations() {
        for (int generation : new int[] {0, 1, 13, 29, 30}) {
            startUpTo("a HEADER has a generation 0 .. 30: " + generation, 30);
            taken("the state", sealed(state(generation, 1, header, vector(0, 0, 0), entries())), true);
            checks.due("device(0, 7)", x.call("device", 0, 7), generation);
        }
    }

    private void passwords() {
        for (int password = 0; password <= 9; password++) {
            start("the password is one: ATOM " + password);
            int atom = password == 9 ? atom(9) : x.call("leak", password);
            int box = x.call("build", BOX, x.call("build", KEY, atom, atom(8)), atom(9));
            taken("the state", sealed(state(1, 1, box, vector(0, 0, 0), entries())), password <= 7);
            x.call("lock", 0);
            checks.due("unlock", x.call("unlock", 0, password % 8), password <= 7 || password == 8 ? 1 : 0);
        }
    }

    private void counts() {
        for (int d = 0; d < 3; d++) {
            for (int count : new int[] {0, 1, 29, 30}) {
                startUpTo("the VECTOR has a count 0 .. 30 for each device: " + count + " for " + d, 30);
                taken("the state", plain(vector(d == 0 ? count : 0, d == 1 ? count : 0, d == 2 ? count : 0), entries()), true);
                checks.due("its count", x.call("device", 0, 1 + d), count);
            }
        }
    }

    private void dots() {
        for (int d = 0; d <= 3; d++) {
            for (int count : new int[] {0, 1, 29, 30}) {
                startUpTo("a DOT is a device and a count of 1 or more: " + d + " " + count, 30);
                boolean proper = d < 3 && count >= 1;
                taken("the state", plain(vector(30, 30, 30), entries(entry(0, d, count, box0))), proper);
                checks.due("device(0, 9)", x.call("device", 0, 9), proper ? 1 : 0);
            }
        }
    }

    private void dotsThatAreKnown() {
        for (int d = 0; d < 3; d++) {
            for (int count = 1; count <= 4; count++) {
                start("it knows all their dots: " + d + " " + count + " of 3, the others' counts are 13 or 0");
                int others = count % 2 * 13;
                int[] vector = {others, others, others};
                vector[d] = 3;
                taken("the state", plain(vector, entries(entry(0, d, count, box0))), count <= 3);
            }
        }
        start("it knows all their dots: the last of three it does not");
        int[] three = {entry(0, 0, 1, box0), entry(1, 1, 2, box1), entry(2, 2, 4, box2)};
        taken("2 2 3", plain(vector(2, 2, 3), entries(three)), false);
        taken("2 1 4", plain(vector(2, 1, 4), entries(three)), false);
        taken("0 2 4", plain(vector(0, 2, 4), entries(three)), false);
        taken("1 2 4", plain(vector(1, 2, 4), entries(three)), true);
    }

    private void dotsTwice() {
        start("no two have the same dot");
        x.call("put", 2, 0, 5);
        x.call("steal", 2);
        int box = content(10, 105);
        int[] all = vector(3, 3, 3);
        int first = entry(0, 1, 1, box0);
        taken("one entry twice", plain(all, entries(first, first)), false);
        taken("another content", plain(all, entries(first, entry(0, 1, 1, box))), false);
        taken("another content, the other way", plain(all, entries(entry(0, 1, 1, box), first)), false);
        taken("another item", plain(all, entries(first, entry(1, 1, 1, box1))), false);
        taken("another item behind others", plain(all, entries(first, entry(0, 1, 2, box0), entry(1, 0, 1, box1),
                entry(2, 1, 1, box2))), false);
        taken("the same count of other devices", plain(all, entries(entry(0, 0, 1, box0), first, entry(0, 2, 1, box0))), true);
    }

    private void items() {
        start("ITEMS are 0 .. 3");
        int[] boxes = {box0, box1, box2, content(13, 153)};
        for (int item = 0; item <= 4; item++) {
            for (int box = 0; box < 4; box++) {
                int seal = plain(vector(13, 13, 13), entries(entry(item, 2, 1, boxes[box])));
                x.call("forge", 1, seal);
                x.call("deliver", 0);
                checks.due("item " + item + " with the box of item " + box, x.call("device", 1, 10) == seal, item == box);
            }
        }
    }

    private void contents() {
        for (int content : new int[] {0, 1, 62, 63}) {
            for (int item = 0; item < 4; item++) {
                checks.about("CONTENTS 0 .. 63: " + content + " of item " + item);
                Run run = Edges.open().then("put", 0, item, content).then("push", 0);
                run = run.then("forge", 1, run.lastAnswer()).then("deliver", 1);
                checks.due("get(1, item, 0)", run.answer("get", 1, item, 0), content);
                checks.due("get(1, item, 1)", run.answer("get", 1, item, 1), -1);
                checks.due("atom of the content", run.answer("term", run.answer("atom", 100 + content), 1), 100 + content);
                checks.due("atom of the item's key", run.answer("term", run.answer("atom", 10 + item), 1), 10 + item);
            }
        }
    }

    private void numbersOfEntries() {
        for (int count : new int[] {0, 1, 2, 11, 12, 13}) {
            start("at most 12 entries are in a state: " + count);
            taken("the state", plain(vector(0, 0, 13), entries(many(0, 2, count, box0))), count <= 12);
            checks.due("device(0, 9)", x.call("device", 0, 9), count <= 12 ? count : 0);
            checks.due("get(0, 0, -1)", x.call("get", 0, 0, -1), count <= 12 ? count : 0);
            checks.due("get(0, 0, count - 1)", x.call("get", 0, 0, Math.max(0, count - 1)), count >= 1 && count <= 12 ? 50 : -1);
        }
    }

    private void twelveOfAllItems() {
        start("12 entries of four items and three devices");
        int[] boxes = {box0, box1, box2, content(13, 153)};
        int[] made = new int[13];
        for (int i = 0; i < 12; i++) {
            made[i] = entry(i / 3, i % 3, i / 3 + 1, boxes[i / 3]);
        }
        made[12] = entry(3, 2, 5, boxes[3]);
        taken("13 of them", plain(vector(4, 4, 5), entries(made)), false);
        taken("12 of them", plain(vector(4, 4, 4), entries(java.util.Arrays.copyOf(made, 12))), true);
        for (int item = 0; item < 4; item++) {
            checks.due("get(0, item, -1)", x.call("get", 0, item, -1), 3);
            checks.due("get(0, item, 2)", x.call("get", 0, item, 2), 50 + item);
        }
    }

    /** Six entries in order; each two neighbours the other way round make no state. */
    private void neighboursInOrder() {
        start("the ENTRIES, in the order of their items, of one item by the devices of the dots, of these by their counts");
        int[] made = {entry(0, 0, 2, box0), entry(0, 0, 3, box0), entry(0, 1, 1, box0), entry(0, 2, 3, box0),
            entry(1, 0, 1, box1), entry(2, 2, 1, box2)};
        for (int i = 0; i + 1 < made.length; i++) {
            int[] turned = made.clone();
            turned[i] = made[i + 1];
            turned[i + 1] = made[i];
            taken("neighbours " + i + " and " + (i + 1), plain(vector(3, 3, 3), entries(turned)), false);
        }
        int[] ends = made.clone();
        ends[0] = made[5];
        ends[5] = made[0];
        taken("the first and the last", plain(vector(3, 3, 3), entries(ends)), false);
        taken("all in order", plain(vector(3, 3, 3), entries(made)), true);
        checks.due("device(0, 9)", x.call("device", 0, 9), 6);
    }

    private void endOfEntries() {
        start("NUMBER 0 if there are none (left)");
        int entry = entry(0, 0, 1, box0);
        int[] all = vector(3, 3, 3);
        for (int bad : new int[] {number(1), number(13), atom(0), atom(9), header, box0, entry}) {
            taken("no entries and term " + bad, plain(all, bad), false);
            taken("one entry and term " + bad, plain(all, pair(entry, bad)), false);
        }
        taken("NUMBER 0 in the place of an entry", plain(all, pair(number(0), number(0))), false);
        taken("NUMBER 0 behind an entry", plain(all, pair(entry, number(0))), true);
        taken("NUMBER 0 alone", plain(all, number(0)), true);
    }

    private void markOfAnotherVault() {
        start("SEALED as PAIR(state, MARK(VAULT, state))");
        int good = state(1, 1, header, vector(0, 0, 0), entries());
        int other = state(1, 2, header, vector(0, 0, 0), entries());
        for (int key : new int[] {atom(0), atom(8), number(9), header, good}) {
            taken("a MARK under term " + key, pair(good, x.call("build", MARK, key, good)), false);
        }
        taken("a MARK of another state", pair(good, x.call("build", MARK, atom(9), other)), false);
        taken("a MARK the other way", pair(good, x.call("build", MARK, good, atom(9))), false);
        for (int kind : new int[] {KEY, BOX, PAIR}) {
            taken("kind " + kind + " for the MARK", pair(good, x.call("build", kind, atom(9), good)), false);
        }
        int mark = x.call("build", MARK, atom(9), good);
        for (int kind : new int[] {KEY, BOX, MARK}) {
            taken("kind " + kind + " for the PAIR", x.call("build", kind, good, mark), false);
        }
        taken("the MARK twice", pair(mark, mark), false);
        taken("the MARK first", pair(mark, good), false);
        taken("a PAIR too much", pair(good, pair(mark, number(0))), false);
        taken("the SEAL", pair(good, mark), true);
    }

    private void lockedDevice() {
        start("a REPLY is thrown away if the device is LOCKED, though its term is a SEAL");
        int seal = plain(vector(1, 1, 1), entries(entry(0, 0, 1, box0)));
        Run before = x.run().then("lock", 0);
        Run after = before.then("forge", 0, seal).then("deliver", 0);
        checks.due("deliver", after.lastAnswer(), 1);
        checks.due("all is as before", after.sight().equals(before.sight()), true);
        Run open = x.run().then("forge", 0, seal).then("deliver", 0);
        checks.due("an open one takes it", open.answer("device", 0, 10), seal);
    }
}
