/** Somebody who has the vault key, and makes whole states and what only looks like them of what is KNOWN. */
class Forger {
    static final int KEY = 2;
    static final int BOX = 3;
    static final int PAIR = 4;
    static final int MARK = 5;

    final Checks checks = new Checks();
    Twin x;
    int box0;
    int box1;
    int box2;
    int header;

    /** All devices are open; the numbers 0 to 13, the boxes of items 0, 1 and 2 and the vault key are KNOWN. */
    void start(String about) {
        checks.about(about);
        x = new Twin(checks);
        for (int d = 0; d < 3; d++) {
            x.call("unlock", d, 0);
        }
        x.call("put", 2, 0, 50);
        x.call("put", 2, 1, 51);
        x.call("put", 2, 2, 52);
        for (int i = 4; i <= 13; i++) {
            x.call("steal", 2);
            x.call("put", 2, 3, 53);
        }
        x.call("steal", 2);
        x.call("leak", 0);
        x.call("leak", 8);
        box0 = content(10, 150);
        box1 = content(11, 151);
        box2 = content(12, 152);
        header = x.model.look(3, x.model.look(2, atom(0), atom(8)), atom(9));
        checks.due("the vault key is KNOWN", x.call("known", atom(9)), 1);
        for (int n = 0; n <= 3; n++) {
            checks.due("NUMBER " + n + " is there", number(n) >= 0, true);
        }
    }

    /** As start, but there is a NUMBER for the count as well, and for the one below it. */
    void startUpTo(String about, int count) {
        start(about);
        for (int i = 14; i <= count; i++) {
            x.call("put", 2, 3, 53);
            if (i >= count - 1) {
                x.call("steal", 2);
            }
        }
        checks.due("NUMBER " + count + " is there", number(count) >= 0, true);
    }

    int atom(int n) {
        return x.model.atom(n);
    }

    int number(int n) {
        return x.model.look(1, n, -1);
    }

    int content(int key, int content) {
        return x.model.look(3, atom(key), atom(content));
    }

    int pair(int first, int rest) {
        return x.call("build", PAIR, first, rest);
    }

    int entry(int item, int device, int count, int box) {
        return pair(number(item), pair(number(device), pair(number(count), box)));
    }

    int entries(int... entries) {
        int list = number(0);
        for (int i = entries.length - 1; i >= 0; i--) {
            list = pair(entries[i], list);
        }
        return list;
    }

    int state(int generation, int owner, int box, int[] vector, int entries) {
        int list = pair(number(vector[0]), pair(number(vector[1]), pair(number(vector[2]), entries)));
        return pair(number(generation), pair(number(owner), pair(box, list)));
    }

    int sealed(int state) {
        return pair(state, x.call("build", MARK, atom(9), state));
    }

    int plain(int[] vector, int entries) {
        return sealed(state(1, 2, header, vector, entries));
    }

    /** Sends the term to device 0 and tells whether it was taken over. */
    void taken(String what, int t, boolean want) {
        int before = x.call("device", 0, 10);
        checks.due("forge of " + what, x.call("forge", 0, t), 1);
        checks.due("deliver of " + what, x.call("deliver", 0), 1);
        int base = x.call("device", 0, 10);
        checks.due(what + " is taken", base == t, want);
        if (!want) {
            checks.due("BASE stays after " + what, base, before);
        }
    }

    static int[] vector(int... counts) {
        return counts;
    }

    int[] many(int item, int device, int count, int box) {
        int[] made = new int[count];
        for (int i = 0; i < count; i++) {
            made[i] = entry(item, device, i + 1, box);
        }
        return made;
    }
}
