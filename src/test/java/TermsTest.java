/** Promises 16 to 21: terms, in which order they are made, who knows them, and that there are at most 900. */
public final class TermsTest {
    private final Checks checks = new Checks();

    public static void main(String[] args) {
        TermsTest test = new TermsTest();
        test.build();
        test.buildOfEqualOnes();
        test.buildFull();
        test.leak();
        test.steal();
        test.stealFull();
        test.orderOfAState();
        test.orderOfEntries();
        test.orderOfHeaderAndVector();
        test.knownOfNothing();
        test.knownOfASeal();
        test.knownThroughTheKey();
        test.knownOfWhatIsBoxed();
        test.knownBackwards();
        test.knownByEachPassword();
        test.knownByOneOfTwoHeaders();
        test.neverKnown();
        test.term();
        test.atom();
        test.checks.end();
    }

    private void build() {
        checks.about("promise 16, build");
        VaultDevices x = new VaultDevices();
        checks.due("build(4, 0, 0) of no terms", x.build(4, 0, 0), -1);
        x.leak(3);
        checks.due("build(4, 0, 1)", x.build(4, 0, 1), -1);
        checks.due("build(4, 1, 0)", x.build(4, 1, 0), -1);
        checks.due("build(4, -1, 0)", x.build(4, -1, 0), -1);
        checks.due("build(4, 0, -1)", x.build(4, 0, -1), -1);
        checks.due("build(4, 0, greatest)", x.build(4, 0, Integer.MAX_VALUE), -1);
        for (int kind : new int[] {-1, 0, 1, 6, Integer.MIN_VALUE, Integer.MAX_VALUE}) {
            checks.due("build(" + kind + ", 0, 0)", x.build(kind, 0, 0), -1);
        }
        checks.due("term(1, 0) after all that", x.term(1, 0), -1);
        for (int kind = 2; kind <= 5; kind++) {
            checks.due("build(" + kind + ", 0, 0)", x.build(kind, 0, 0), kind - 1);
            checks.due("its kind", x.term(kind - 1, 0), kind);
            checks.due("its x", x.term(kind - 1, 1), 0);
            checks.due("its y", x.term(kind - 1, 2), 0);
            checks.due("it is KNOWN", x.known(kind - 1), true);
        }
        VaultDevices y = new VaultDevices();
        int disk = y.steal(0);
        checks.due("build of an x that is not KNOWN", y.build(4, y.atom(8), 0), -1);
        checks.due("build of a y that is not KNOWN", y.build(4, 0, y.atom(8)), -1);
        checks.due("no term more", y.term(disk + 1, 0), -1);
    }

    private void buildOfEqualOnes() {
        checks.about("promise 16, equal terms are one");
        VaultDevices x = new VaultDevices();
        x.leak(0);
        x.leak(1);
        checks.due("build(4, 0, 1)", x.build(4, 0, 1), 2);
        checks.due("build(4, 1, 0), another one", x.build(4, 1, 0), 3);
        checks.due("build(3, 0, 1), another one", x.build(3, 0, 1), 4);
        checks.due("build(4, 0, 1) again", x.build(4, 0, 1), 2);
        checks.due("build(4, 1, 0) again", x.build(4, 1, 0), 3);
        checks.due("leak(1) again", x.leak(1), 1);
        checks.due("build(4, 2, 1)", x.build(4, 2, 1), 5);
        x.leak(8);
        checks.due("build(2, 0, 6), a key", x.build(2, 0, 6), 7);
        checks.due("a device's state takes what is there", x.steal(0), 7 + 11);
        checks.due("its box has that key", x.term(10, 1), 7);
    }

    private void buildFull() {
        checks.about("promises 16 and 17, FULL");
        VaultDevices x = new VaultDevices();
        MailTest.openAll(x);
        MailTest.fillTerms(x, 899);
        checks.due("build as the 900th", x.build(4, 0, 898), 899);
        checks.due("build as the 901st", x.build(4, 0, 899), -2);
        checks.due("known(900)", x.known(900), false);
        checks.due("build of one that is there", x.build(4, 0, 898), 899);
        checks.due("NONE goes before FULL: no kind", x.build(6, 0, 0), -1);
        checks.due("NONE goes before FULL: no term", x.build(4, 0, 900), -1);
        checks.due("NONE goes before FULL: not KNOWN", x.build(4, 0, x.atom(8)), -1);
        checks.due("leak(5)", x.leak(5), -2);
        checks.due("atom(5)", x.atom(5), -1);
        checks.due("leak(9)", x.leak(9), -1);
        checks.due("leak(8), which is there", x.leak(8), 2);
        checks.due("known(2)", x.known(2), true);
    }

    private void leak() {
        checks.about("promise 17, leak");
        VaultDevices x = new VaultDevices();
        for (int n : new int[] {-1, 9, 10, 100, Integer.MIN_VALUE, Integer.MAX_VALUE}) {
            checks.due("leak(" + n + ")", x.leak(n), -1);
        }
        checks.due("term(0, 0)", x.term(0, 0), -1);
        for (int i = 0; i <= 8; i++) {
            checks.due("leak(" + (8 - i) + ")", x.leak(8 - i), i);
            checks.due("known(" + i + ")", x.known(i), true);
            checks.due("term(" + i + ", 0)", x.term(i, 0), 0);
            checks.due("term(" + i + ", 1)", x.term(i, 1), 8 - i);
        }
        VaultDevices y = new VaultDevices();
        y.steal(0);
        checks.due("known before", y.known(2), false);
        checks.due("leak(8), made by a device", y.leak(8), 2);
        checks.due("known after", y.known(2), true);
    }

    private void steal() {
        checks.about("promise 18, steal");
        VaultDevices x = new VaultDevices();
        for (int bad : new int[] {-1, 3, Integer.MIN_VALUE, Integer.MAX_VALUE}) {
            checks.due("steal(" + bad + ")", x.steal(bad), -1);
        }
        checks.due("steal(1) of a LOCKED device", x.steal(1), 13);
        checks.due("steal(2), the same state", x.steal(2), 13);
        checks.due("known(13)", x.known(13), true);
        checks.due("flight()", x.flight(), 0);
        checks.due("device(1, 0)", x.device(1, 0), 1);
        x.unlock(0, 0);
        x.put(0, 0, 9);
        int disk = x.steal(0);
        checks.due("push(0) has the stolen term", x.push(0), disk);
        x.unlock(1, 0);
        x.forge(1, disk);
        x.deliver(1);
        checks.due("a device takes it", x.get(1, 0, 0), 9);
    }

    private void stealFull() {
        checks.about("promise 18, steal FULL");
        VaultDevices x = new VaultDevices();
        MailTest.openAll(x);
        MailTest.fillTerms(x, 887);
        x.put(1, 0, 1);
        checks.due("steal(1) of 14 terms where 13 fit", x.steal(1), -2);
        checks.due("term(887, 0)", x.term(887, 0), -1);
        checks.due("atom(101)", x.atom(101), -1);
        checks.due("steal(3)", x.steal(3), -1);
        checks.due("steal(0), which is there", x.steal(0), 13);
        checks.due("what was taken back can be made anew", x.build(4, 0, 886), 887);
        VaultDevices y = new VaultDevices();
        MailTest.openAll(y);
        MailTest.fillTerms(y, 886);
        y.put(1, 0, 1);
        checks.due("steal(1) of 14 terms where 14 fit", y.steal(1), 899);
        checks.due("known(899)", y.known(899), true);
    }

    private void orderOfAState() {
        checks.about("promise 20, the terms of a state without entries");
        VaultDevices x = new VaultDevices();
        x.steal(0);
        int[][] want = {{1, 0, -1}, {0, 0, -1}, {0, 8, -1}, {2, 1, 2}, {0, 9, -1}, {3, 3, 4}, {4, 0, 0}, {4, 0, 6},
            {4, 0, 7}, {4, 5, 8}, {4, 0, 9}, {4, 0, 10}, {5, 4, 11}, {4, 11, 12}, {-1, -1, -1}};
        compare(x, want);
    }

    /** Device 1 with header 1 1 password 6, vector 0 3 0, and item 2 before item 3 although it came later. */
    private void orderOfEntries() {
        checks.about("promise 20, the terms of a state with entries");
        VaultDevices x = new VaultDevices();
        x.unlock(1, 0);
        x.put(1, 3, 40);
        x.put(1, 3, 50);
        x.put(1, 2, 60);
        x.change(1, 6);
        checks.due("push(1)", x.push(1), 30);
        int[][] want = {{1, 1, -1}, {0, 6, -1}, {0, 8, -1}, {2, 1, 2}, {0, 9, -1}, {3, 3, 4}, {1, 0, -1}, {1, 3, -1},
            {1, 2, -1}, {0, 12, -1}, {0, 160, -1}, {3, 9, 10}, {4, 7, 11}, {4, 0, 12}, {4, 8, 13},
            {0, 13, -1}, {0, 150, -1}, {3, 15, 16}, {4, 8, 17}, {4, 0, 18}, {4, 7, 19},
            {4, 20, 6}, {4, 14, 21}, {4, 6, 22}, {4, 7, 23}, {4, 6, 24}, {4, 5, 25}, {4, 0, 26}, {4, 0, 27}};
        compare(x, want);
        checks.due("the MARK", x.term(29, 0), 5);
    }

    /** All its numbers differ as far as they can: header 2 1 password 0, vector 0 3 0. */
    private void orderOfHeaderAndVector() {
        checks.about("promise 20, generation before device, both before the box, this before the vector");
        VaultDevices x = new VaultDevices();
        x.unlock(1, 0);
        x.change(1, 7);
        x.change(1, 0);
        x.put(1, 0, 0);
        x.put(1, 0, 0);
        x.erase(1, 0);
        checks.due("steal(1)", x.steal(1), 16);
        int[][] want = {{1, 2, -1}, {1, 1, -1}, {0, 0, -1}, {0, 8, -1}, {2, 2, 3}, {0, 9, -1}, {3, 4, 5}, {1, 0, -1},
            {1, 3, -1}, {4, 7, 7}, {4, 8, 9}, {4, 7, 10}, {4, 6, 11}, {4, 1, 12}, {4, 0, 13}, {5, 5, 14}, {4, 14, 15}};
        compare(x, want);
    }

    private void compare(VaultDevices x, int[][] want) {
        for (int t = 0; t < want.length; t++) {
            for (int w = 0; w < 3; w++) {
                checks.due("term(" + t + ", " + w + ")", x.term(t, w), want[t][w]);
            }
        }
    }

    private void knownOfNothing() {
        checks.about("promise 19, known");
        VaultDevices x = new VaultDevices();
        for (int t : new int[] {-1, 0, 1, 899, 900, Integer.MIN_VALUE, Integer.MAX_VALUE}) {
            checks.due("known(" + t + ")", x.known(t), false);
        }
        x.leak(0);
        checks.due("known(0)", x.known(0), true);
        checks.due("known(1)", x.known(1), false);
        checks.due("known(-1)", x.known(-1), false);
    }

    /** Of a SEAL that was sent all PAIRs come apart; boxes and marks stay shut. */
    private void knownOfASeal() {
        checks.about("promise 19, what a SEAL gives away");
        VaultDevices x = new VaultDevices();
        x.unlock(0, 0);
        x.put(0, 1, 5);
        int seal = x.push(0);
        for (int t = 0; t <= seal; t++) {
            int kind = x.term(t, 0);
            boolean shut = kind == 0 || kind == 2;
            checks.due("known(" + t + ") of kind " + kind, x.known(t), !shut);
        }
        checks.due("the content", x.known(x.atom(105)), false);
        checks.due("the key of the item", x.known(x.atom(11)), false);
    }

    private void knownThroughTheKey() {
        checks.about("promise 19, the vault key through the password and the secret");
        VaultDevices x = new VaultDevices();
        x.unlock(0, 0);
        x.put(0, 1, 5);
        x.push(0);
        int vault = x.atom(9);
        x.leak(8);
        checks.due("after the secret alone", x.known(vault), false);
        x.leak(1);
        checks.due("after a wrong password", x.known(vault), false);
        x.leak(0);
        checks.due("the key", x.known(3), true);
        checks.due("the vault key", x.known(vault), true);
        checks.due("the content stays hidden", x.known(x.atom(105)), false);
        VaultDevices y = new VaultDevices();
        y.leak(0);
        y.leak(8);
        y.unlock(0, 0);
        y.push(0);
        checks.due("given away before it was sent", y.known(y.atom(9)), true);
    }

    private void knownOfWhatIsBoxed() {
        checks.about("promise 19, keys, boxes and marks that somebody made");
        VaultDevices x = new VaultDevices();
        x.leak(0);
        x.leak(8);
        x.steal(0);
        int vault = x.atom(9);
        int box = x.build(3, vault, 0);
        checks.due("a BOX of KNOWN ones", x.known(box), true);
        int mark = x.build(5, vault, box);
        checks.due("a MARK of KNOWN ones", x.known(mark), true);
        int key = x.build(2, mark, box);
        checks.due("a KEY of KNOWN ones", x.known(key), true);
        x.unlock(0, 0);
        x.change(0, 5);
        x.steal(0);
        int hidden = x.atom(5);
        checks.due("another password", x.known(hidden), false);
        checks.due("the term behind it is its key", x.term(hidden + 1, 0), 2);
        checks.due("its key", x.known(hidden + 1), false);
        x.leak(5);
        checks.due("its key, when it is given away", x.known(hidden + 1), true);
    }

    /** MARKs, KEYs and BOXes under unknown keys give nothing of what is in them. */
    private void knownBackwards() {
        checks.about("promise 19, what gives nothing away");
        VaultDevices x = new VaultDevices();
        x.unlock(0, 0);
        x.put(0, 0, 8);
        x.steal(0);
        int mark = x.term(x.steal(0), 2);
        checks.due("the MARK is KNOWN", x.known(mark), true);
        checks.due("its key is not", x.known(x.term(mark, 1)), false);
        x.leak(0);
        checks.due("the KEY is not KNOWN by its x", x.known(3), false);
        checks.due("nor its y", x.known(2), false);
    }

    /** The vault key comes out of the header's box by the SECRET and its password, in whichever order they come. */
    private void knownByEachPassword() {
        for (int password = 0; password < 8; password++) {
            checks.about("y of a KNOWN BOX whose x is KNOWN, password " + password);
            Run run = Edges.open().then("change", 1, password).then("push", 1);
            int vault = run.answer("atom", 9);
            checks.due("by nothing", run.answer("known", vault), 0);
            checks.due("by the password alone", run.then("leak", password).answer("known", vault), 0);
            Run others = run.then("leak", 8);
            for (int other = 0; other < 8; other++) {
                others = other == password ? others : others.then("leak", other);
            }
            checks.due("by the SECRET and all other passwords", others.answer("known", vault), 0);
            checks.due("and this one", others.then("leak", password).answer("known", vault), 1);
            checks.due("password first", run.then("leak", password).then("leak", 8).answer("known", vault), 1);
            Run before = Edges.open().then("leak", 8).then("leak", password).then("change", 1, password);
            checks.due("before it is sent there is none", before.answer("atom", 9), -1);
            Run stolen = before.then("steal", 1);
            checks.due("stolen afterwards", stolen.answer("known", stolen.answer("atom", 9)), 1);
        }
    }

    private void knownByOneOfTwoHeaders() {
        checks.about("one header whose password is KNOWN opens the vault for all");
        Run run = Edges.open().then("push", 0).then("change", 0, 6).then("push", 0).then("leak", 8).then("leak", 0);
        int vault = run.answer("atom", 9);
        checks.due("known(vault)", run.answer("known", vault), 1);
        checks.due("known(the other password)", run.answer("known", run.answer("atom", 6)), 0);
        checks.due("known(its KEY)", run.answer("known", run.answer("atom", 6) + 1), 0);
        int mark = run.countTerms();
        checks.due("a MARK under it can be made", run.answer("build", 5, vault, 0), mark);
    }

    /** Nobody gives away the keys of items, so contents stay in their boxes whatever else is KNOWN. */
    private void neverKnown() {
        checks.about("nothing can be got out of a box without its key");
        Run run = Edges.open();
        for (int item = 0; item < 4; item++) {
            run = run.then("put", 0, item, 20 + item);
        }
        run = run.then("push", 0);
        for (int n = 0; n <= 8; n++) {
            run = run.then("leak", n);
        }
        for (int item = 0; item < 4; item++) {
            checks.due("known(key of " + item + ")", run.answer("known", run.answer("atom", 10 + item)), 0);
            checks.due("known(content of " + item + ")", run.answer("known", run.answer("atom", 120 + item)), 0);
        }
        checks.due("known(vault)", run.answer("known", run.answer("atom", 9)), 1);
    }

    private void term() {
        checks.about("promise 20, term");
        VaultDevices x = new VaultDevices();
        checks.due("term(0, 0) of none", x.term(0, 0), -1);
        x.leak(7);
        x.build(5, 0, 0);
        int[][] want = {{0, 7, -1}, {5, 0, 0}, {-1, -1, -1}};
        compare(x, want);
        checks.due("term(1, 3)", x.term(1, 3), -1);
        checks.due("term(1, -1)", x.term(1, -1), -1);
        checks.due("term(1, least)", x.term(1, Integer.MIN_VALUE), -1);
        checks.due("term(-1, 1)", x.term(-1, 1), -1);
        checks.due("term(greatest, 1)", x.term(Integer.MAX_VALUE, 1), -1);
        checks.due("term(least, 2)", x.term(Integer.MIN_VALUE, 2), -1);
    }

    private void atom() {
        checks.about("promise 21, atom");
        VaultDevices x = new VaultDevices();
        for (int n : new int[] {0, 8, 9, 10, 13, 14, 100, 163, 164, -1, -2, Integer.MIN_VALUE, Integer.MAX_VALUE}) {
            checks.due("atom(" + n + ")", x.atom(n), -1);
        }
        x.leak(4);
        checks.due("atom(4)", x.atom(4), 0);
        x.unlock(0, 0);
        x.put(0, 3, 63);
        checks.due("atom(13) before it is sent", x.atom(13), -1);
        x.push(0);
        checks.due("atom(13)", x.term(x.atom(13), 1), 13);
        checks.due("atom(163)", x.term(x.atom(163), 1), 163);
        checks.due("its kind", x.term(x.atom(163), 0), 0);
        checks.due("atom(9)", x.term(x.atom(9), 1), 9);
        checks.due("atom(3), for the NUMBER 3 is no ATOM", x.atom(3), -1);
        checks.due("atom(1), for the NUMBER 1 is no ATOM", x.atom(1), -1);
    }
}
