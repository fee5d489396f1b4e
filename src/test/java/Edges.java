import java.util.TreeSet;

/** Runs that come to the edges of the document, and ints that lie outside of its ranges. */
final class Edges {
    private Edges() {
    }

    static Run fresh() {
        return new Run();
    }

    static Run open() {
        return new Run().then("unlock", 0, 0).then("unlock", 1, 0).then("unlock", 2, 0);
    }

    /**
     * Something of everything: device 0 is open and has a BASE, device 1 is open and has the password 4, device 2 is
     * LOCKED; the server holds a term; under way are the PUSHes of 0 (with its base) and 1, a PULL of 1 and a REPLY to 2.
     */
    static Run busy() {
        Run run = open().then("put", 0, 0, 1).then("put", 1, 1, 2).then("put", 2, 2, 3).then("push", 0);
        int seal = run.lastAnswer();
        run = run.then("deliver", 0).then("deliver", 0).then("put", 0, 3, 63).then("change", 1, 4);
        run = run.then("push", 0).then("push", 1).then("pull", 1).then("forge", 2, seal);
        return run.then("leak", 3).then("lock", 2);
    }

    /**
     * All three devices have edits side by side, and a BASE; device 0 has changed the password since, device 2 erased
     * something; somebody knows the password and the SECRET.
     */
    static Run synced() {
        Run run = open();
        for (int d = 0; d < 3; d++) {
            run = run.then("put", d, 0, 10 + d).then("put", d, d + 1, 20 + d);
        }
        for (int round = 0; round < 2; round++) {
            for (int d = 0; d < 3; d++) {
                run = run.then("push", d).then("deliver", 0).then("deliver", 0);
                run = run.then("push", d).then("deliver", 0).then("deliver", 0);
            }
        }
        return run.then("change", 0, 5).then("erase", 2, 3).then("leak", 0).then("leak", 8);
    }

    /** The device's count is so great, by its own puts. */
    static Run count(int d, int count) {
        Run run = open();
        for (int i = 1; i <= count; i++) {
            run = run.then("put", d, i % 2, i);
        }
        return run;
    }

    static Run generation(int d, int generation) {
        Run run = open();
        for (int i = 1; i <= generation; i++) {
            run = run.then("change", d, i % 8);
        }
        return run;
    }

    /** So many PULLs of device 0 are under way. */
    static Run mail(int count) {
        Run run = open();
        for (int i = 0; i < count; i++) {
            run = run.then("pull", 0);
        }
        return run;
    }

    /** Behind the run, REPLYs to all devices in turn until so many messages are under way. */
    static Run replies(Run run, int flight) {
        Run longer = run;
        int seal = run.answer("server");
        for (int i = run.answer("flight"); i < flight; i++) {
            longer = longer.then("forge", i % 3, seal);
        }
        return longer;
    }

    /** There are so many terms, the NUMBER 0 as the first; device 1 has made no edit, and nobody has content 1. */
    static Run terms(int want) {
        Run run = open().then("steal", 0);
        int made = run.lastAnswer() + 1;
        for (int i = 0; i < 60 && want - made > 30; i++) {
            int d = i % 2 * 2;
            run = run.then("put", d, i / 2 % 4, 2 + i).then("steal", d);
            made = run.lastAnswer() + 1;
        }
        while (made < want) {
            run = run.then("build", 4, 0, made - 1);
            made++;
        }
        return run;
    }

    /** Ints below low and above high: those next to them, the least, the greatest, and such as wrap around to fit. */
    static int[] outside(int low, int high) {
        TreeSet<Integer> found = new TreeSet<>();
        for (int bit = 0; bit < 32; bit++) {
            int power = 1 << bit;
            for (int near : new int[] {0, -1, 1, low, high}) {
                found.add(power + near);
                found.add(near - power);
            }
        }
        found.add(low - 1);
        found.add(high + 1);
        found.removeIf(n -> n >= low && n <= high);
        return found.stream().mapToInt(n -> n).toArray();
    }
}
