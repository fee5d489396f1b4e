/** Promises 8 to 15 and 23: what is sent, comes, is lost, forged and planted, and what the server holds. */
public final class MailTest {
    private static final Class<IllegalArgumentException> ARGUMENT = IllegalArgumentException.class;
    private static final Class<IllegalStateException> STATE = IllegalStateException.class;
    private static final int[] NO_DEVICE = {-1, 3, Integer.MIN_VALUE, Integer.MAX_VALUE};

    private final Checks checks = new Checks();

    public static void main(String[] args) {
        MailTest test = new MailTest();
        test.pull();
        test.push();
        test.pushWithBase();
        test.pushFull();
        test.deliver();
        test.deliverPush();
        test.repliesThrownAway();
        test.repliesTooOld();
        test.drop();
        test.message();
        test.messagesMoveUp();
        test.lostMessages();
        test.roomForTheReply();
        test.forge();
        test.plant();
        test.checks.end();
    }

    private static VaultDevices open() {
        VaultDevices x = new VaultDevices();
        openAll(x);
        return x;
    }

    static void openAll(VaultDevices x) {
        for (int d = 0; d < 3; d++) {
            x.unlock(d, 0);
        }
    }

    private void pull() {
        checks.about("promise 8, pull");
        VaultDevices x = new VaultDevices();
        checks.refused("pull(1) when LOCKED", STATE, () -> x.pull(1));
        for (int bad : NO_DEVICE) {
            checks.refused("pull(" + bad + ")", ARGUMENT, () -> x.pull(bad));
        }
        checks.due("flight()", x.flight(), 0);
        x.unlock(1, 0);
        checks.due("pull(1)", x.pull(1), true);
        checks.due("flight()", x.flight(), 1);
        checks.due("message(0, 0)", x.message(0, 0), 0);
        checks.due("message(0, 1)", x.message(0, 1), 1);
        checks.due("message(0, 2)", x.message(0, 2), -1);
        checks.due("message(0, 3)", x.message(0, 3), -1);
        checks.due("deliver(0)", x.deliver(0), true);
        checks.due("the REPLY", x.message(0, 0), 2);
        checks.due("its device", x.message(0, 1), 1);
        checks.due("its term, as the server has none", x.message(0, 3), -1);
        checks.due("deliver(0)", x.deliver(0), true);
        checks.due("flight()", x.flight(), 0);
        checks.due("device(1, 10)", x.device(1, 10), -1);
    }

    private void push() {
        checks.about("promise 9, push");
        VaultDevices x = new VaultDevices();
        checks.refused("push(2) when LOCKED", STATE, () -> x.push(2));
        for (int bad : NO_DEVICE) {
            checks.refused("push(" + bad + ")", ARGUMENT, () -> x.push(bad));
        }
        checks.due("no term is made", x.term(0, 0), -1);
        x.unlock(2, 0);
        checks.due("push(2) of the first state", x.push(2), 13);
        checks.due("flight()", x.flight(), 1);
        checks.due("message(0, 0)", x.message(0, 0), 1);
        checks.due("message(0, 1)", x.message(0, 1), 2);
        checks.due("message(0, 2)", x.message(0, 2), -1);
        checks.due("message(0, 3)", x.message(0, 3), 13);
        checks.due("known(13)", x.known(13), true);
        checks.due("push(2) once more, the same term", x.push(2), 13);
        checks.due("flight()", x.flight(), 2);
        checks.due("the device's BASE is not yet that", x.device(2, 10), -1);
    }

    private void pushWithBase() {
        checks.about("promise 9, push with a BASE");
        VaultDevices x = open();
        x.put(0, 1, 5);
        int first = x.push(0);
        x.deliver(0);
        x.deliver(0);
        x.put(0, 1, 6);
        int second = x.push(0);
        checks.due("the base", x.message(0, 2), first);
        checks.due("the seal", x.message(0, 3), second);
        checks.due("they differ", first == second, false);
    }

    private void pushFull() {
        checks.about("promise 9, push FULL");
        VaultDevices x = open();
        fillTerms(x, 890);
        x.put(0, 0, 1);
        int flight = x.flight();
        checks.due("push(0)", x.push(0), -2);
        checks.due("flight() after that", x.flight(), flight);
        checks.due("no term is made of it", x.term(890, 0), -1);
        checks.due("nor an atom", x.atom(101), -1);
        checks.refused("push(3) when FULL", ARGUMENT, () -> x.push(3));
        checks.due("the terms before stay", x.term(889, 0), 4);
        checks.due("a state whose terms are there goes", x.push(1), 13);
        x.lock(0);
        checks.refused("push(0) when FULL and LOCKED", STATE, () -> x.push(0));
    }

    /** Makes terms until there are this many, by few calls: states first, as each of them has many, then PAIRs. */
    static void fillTerms(VaultDevices x, int want) {
        int made = x.steal(0) + 1;
        for (int i = 0; i < 30 && want - made > 40; i++) {
            x.put(2, i % 4, 10 + i);
            made = x.steal(2) + 1;
        }
        while (made < want) {
            made = x.build(4, 0, made - 1) + 1;
        }
    }

    private void deliver() {
        checks.about("promise 10, deliver");
        VaultDevices x = open();
        checks.due("deliver(0) of none", x.deliver(0), false);
        x.pull(0);
        x.pull(1);
        x.pull(2);
        checks.due("deliver(3)", x.deliver(3), false);
        checks.due("deliver(-1)", x.deliver(-1), false);
        checks.due("deliver(least)", x.deliver(Integer.MIN_VALUE), false);
        checks.due("deliver(greatest)", x.deliver(Integer.MAX_VALUE), false);
        checks.due("flight()", x.flight(), 3);
        checks.due("deliver(1)", x.deliver(1), true);
        int[][] want = {{0, 0}, {0, 2}, {2, 1}};
        for (int m = 0; m < 3; m++) {
            checks.due("message(" + m + ", 0)", x.message(m, 0), want[m][0]);
            checks.due("message(" + m + ", 1)", x.message(m, 1), want[m][1]);
        }
        checks.due("flight()", x.flight(), 3);
    }

    private void deliverPush() {
        checks.about("promises 10 and 23, a PUSH comes to the server");
        VaultDevices x = open();
        x.put(0, 0, 1);
        x.put(1, 0, 2);
        int first = x.push(0);
        int other = x.push(1);
        checks.due("server() before", x.server(), -1);
        x.deliver(0);
        checks.due("server() holds the first", x.server(), first);
        x.deliver(0);
        checks.due("server() does not take one without its base", x.server(), first);
        checks.due("the REPLY to device 0", x.message(0, 1), 0);
        checks.due("its term", x.message(0, 3), first);
        checks.due("the REPLY to device 1", x.message(1, 1), 1);
        checks.due("its term is what the server holds", x.message(1, 3), first);
        x.deliver(1);
        checks.due("device(1, 10)", x.device(1, 10), first);
        checks.due("device 1 has both", x.get(1, 0, -1), 2);
        int both = x.push(1);
        x.deliver(1);
        checks.due("server() takes what has its base", x.server(), both);
        checks.due("all three differ", first != other && other != both && both != first, true);
        x.put(0, 0, 3);
        x.push(0);
        x.drop(0);
        x.drop(0);
        checks.due("a PUSH without base", x.message(0, 2), -1);
        x.deliver(0);
        checks.due("server() holds something, so none is not its base", x.server(), both);
    }

    private void repliesThrownAway() {
        checks.about("promise 10, REPLYs that are thrown away");
        VaultDevices x = open();
        x.put(0, 2, 7);
        int seal = x.push(0);
        x.deliver(0);
        x.lock(0);
        checks.due("deliver(0) to a LOCKED device", x.deliver(0), true);
        checks.due("flight()", x.flight(), 0);
        checks.due("device(0, 10)", x.device(0, 10), -1);
        checks.due("device(0, 4)", x.device(0, 4), 0);
        int body = x.term(seal, 1);
        int mark = x.term(seal, 2);
        for (int t : new int[] {body, mark, 0}) {
            x.forge(1, t);
            checks.due("deliver(0) of what is no SEAL", x.deliver(0), true);
            checks.due("device(1, 10)", x.device(1, 10), -1);
            checks.due("device(1, 9)", x.device(1, 9), 0);
        }
        x.forge(1, seal);
        x.deliver(0);
        checks.due("device(1, 10) of the SEAL", x.device(1, 10), seal);
        checks.due("get(1, 2, 0)", x.get(1, 2, 0), 7);
        checks.due("device(1, 1)", x.device(1, 1), 1);
        checks.due("device(1, 4)", x.device(1, 4), 1);
    }

    private void repliesTooOld() {
        checks.about("promise 10, a vector that is not ABOVE ACKED");
        VaultDevices x = open();
        x.put(0, 0, 1);
        int old = x.push(0);
        x.put(0, 0, 2);
        int young = x.push(0);
        x.put(2, 1, 3);
        int other = x.push(2);
        x.forge(1, young);
        x.deliver(3);
        x.forge(1, old);
        x.deliver(3);
        checks.due("an old one leaves BASE", x.device(1, 10), young);
        checks.due("and ACKED", x.device(1, 4), 2);
        x.forge(1, other);
        x.deliver(3);
        checks.due("one with one count less and one greater, too", x.device(1, 10), young);
        checks.due("device(1, 6)", x.device(1, 6), 0);
        checks.due("device(1, 9)", x.device(1, 9), 1);
        x.forge(1, young);
        x.deliver(3);
        checks.due("the same again is taken", x.device(1, 10), young);
        x.put(1, 3, 1);
        x.forge(1, young);
        x.deliver(3);
        checks.due("ACKED counts, not the own vector", x.device(1, 5), 0);
        checks.due("get(1, 3, 0) stays", x.get(1, 3, 0), 1);
    }

    private void drop() {
        checks.about("promise 11, drop");
        VaultDevices x = open();
        checks.due("drop(0) of none", x.drop(0), false);
        x.pull(0);
        x.pull(1);
        x.pull(2);
        checks.due("drop(3)", x.drop(3), false);
        checks.due("drop(-1)", x.drop(-1), false);
        checks.due("drop(least)", x.drop(Integer.MIN_VALUE), false);
        checks.due("drop(greatest)", x.drop(Integer.MAX_VALUE), false);
        checks.due("drop(0)", x.drop(0), true);
        checks.due("flight()", x.flight(), 2);
        checks.due("message(0, 1)", x.message(0, 1), 1);
        checks.due("message(1, 1)", x.message(1, 1), 2);
        checks.due("drop(1)", x.drop(1), true);
        checks.due("message(0, 1)", x.message(0, 1), 1);
        checks.due("message(1, 1)", x.message(1, 1), -1);
        x.drop(0);
        x.put(0, 0, 1);
        int seal = x.push(0);
        x.drop(0);
        checks.due("server() never got it", x.server(), -1);
        checks.due("what was sent is KNOWN all the same", x.known(seal), true);
    }

    private void message() {
        checks.about("promise 12, message");
        VaultDevices x = open();
        x.push(1);
        x.deliver(0);
        x.deliver(0);
        x.put(1, 0, 4);
        int seal = x.push(1);
        int[] want = {1, 1, 13, seal};
        for (int w = 0; w < 4; w++) {
            checks.due("message(0, " + w + ") of a PUSH", x.message(0, w), want[w]);
        }
        checks.due("message(0, 4)", x.message(0, 4), -1);
        checks.due("message(0, -1)", x.message(0, -1), -1);
        checks.due("message(1, 0)", x.message(1, 0), -1);
        checks.due("message(-1, 0)", x.message(-1, 0), -1);
        checks.due("message(greatest, 0)", x.message(Integer.MAX_VALUE, 0), -1);
        checks.due("message(least, 3)", x.message(Integer.MIN_VALUE, 3), -1);
        x.deliver(0);
        int[] reply = {2, 1, -1, seal};
        for (int w = 0; w < 4; w++) {
            checks.due("message(0, " + w + ") of a REPLY", x.message(0, w), reply[w]);
        }
        x.pull(1);
        int[] pull = {0, 1, -1, -1};
        for (int w = 0; w < 4; w++) {
            checks.due("message(1, " + w + ") of a PULL of a device with a BASE", x.message(1, w), pull[w]);
        }
    }

    private void messagesMoveUp() {
        checks.about("promises 10 to 12, those behind have lesser numbers then");
        VaultDevices x = open();
        x.push(0);
        x.deliver(0);
        x.deliver(0);
        x.put(0, 0, 1);
        x.pull(2);
        x.pull(1);
        int seal = x.push(0);
        x.forge(2, 0);
        x.pull(1);
        int[][] want = {{0, 2, -1, -1}, {0, 1, -1, -1}, {1, 0, 13, seal}, {2, 2, -1, 0}, {0, 1, -1, -1}};
        messages(x, want);
        x.drop(0);
        messages(x, new int[][] {want[1], want[2], want[3], want[4]});
        x.deliver(2);
        messages(x, new int[][] {want[1], want[2], want[4]});
        x.drop(1);
        messages(x, new int[][] {want[1], want[4]});
        checks.due("server()", x.server(), 13);
    }

    private void messages(VaultDevices x, int[][] want) {
        checks.due("flight()", x.flight(), want.length);
        for (int m = 0; m < want.length; m++) {
            for (int w = 0; w < 4; w++) {
                checks.due("message(" + m + ", " + w + ")", x.message(m, w), want[m][w]);
            }
        }
    }

    private void lostMessages() {
        checks.about("promises 8, 9 and 13, what is sent while 12 are under way");
        VaultDevices x = open();
        for (int i = 1; i <= 12; i++) {
            checks.due("pull(0)", x.pull(0), true);
            checks.due("flight()", x.flight(), i);
        }
        checks.due("pull(1)", x.pull(1), true);
        checks.due("flight()", x.flight(), 12);
        x.put(1, 0, 3);
        int seal = x.push(1);
        checks.due("push(1)", seal >= 0, true);
        checks.due("flight()", x.flight(), 12);
        checks.due("its terms are KNOWN", x.known(seal), true);
        for (int m = 0; m < 12; m++) {
            checks.due("message(" + m + ", 1)", x.message(m, 1), 0);
        }
        checks.due("message(12, 0)", x.message(12, 0), -1);
        checks.due("forge", x.forge(2, seal), false);
        x.drop(4);
        checks.due("forge when there is room", x.forge(2, seal), true);
        checks.due("message(11, 1)", x.message(11, 1), 2);
    }

    private void roomForTheReply() {
        checks.about("promise 10, the REPLY has the room of what came");
        VaultDevices x = open();
        for (int i = 0; i < 12; i++) {
            x.pull(i % 3);
        }
        checks.due("deliver(4)", x.deliver(4), true);
        checks.due("flight()", x.flight(), 12);
        checks.due("message(11, 0)", x.message(11, 0), 2);
        checks.due("message(11, 1)", x.message(11, 1), 1);
        checks.due("message(4, 1)", x.message(4, 1), 2);
    }

    private void forge() {
        checks.about("promise 14, forge");
        VaultDevices x = new VaultDevices();
        checks.due("forge(0, 0) of no term", x.forge(0, 0), false);
        int disk = x.steal(0);
        int secret = x.atom(8);
        checks.due("forge of what is not KNOWN", x.forge(0, secret), false);
        checks.due("forge(0, -1)", x.forge(0, -1), false);
        checks.due("forge(0, count of terms)", x.forge(0, disk + 1), false);
        checks.due("forge(0, greatest)", x.forge(0, Integer.MAX_VALUE), false);
        for (int bad : NO_DEVICE) {
            checks.due("forge(" + bad + ", disk)", x.forge(bad, disk), false);
        }
        checks.due("flight()", x.flight(), 0);
        checks.due("forge(2, disk) to a LOCKED device", x.forge(2, disk), true);
        int[] want = {2, 2, -1, disk};
        for (int w = 0; w < 4; w++) {
            checks.due("message(0, " + w + ")", x.message(0, w), want[w]);
        }
    }

    private void plant() {
        checks.about("promise 15, plant");
        VaultDevices x = new VaultDevices();
        checks.due("plant(0) of no term", x.plant(0), false);
        int disk = x.steal(1);
        checks.due("plant of what is not KNOWN", x.plant(x.atom(9)), false);
        checks.due("plant(-1)", x.plant(-1), false);
        checks.due("plant(count of terms)", x.plant(disk + 1), false);
        checks.due("plant(greatest)", x.plant(Integer.MAX_VALUE), false);
        checks.due("server()", x.server(), -1);
        checks.due("plant(disk)", x.plant(disk), true);
        checks.due("server()", x.server(), disk);
        checks.due("plant(disk) where it is already", x.plant(disk), true);
        checks.due("server()", x.server(), disk);
        checks.due("plant(0)", x.plant(0), true);
        checks.due("server()", x.server(), 0);
        x.unlock(0, 0);
        x.pull(0);
        x.deliver(0);
        checks.due("the REPLY has it", x.message(0, 3), 0);
        x.put(0, 0, 0);
        x.push(0);
        x.deliver(1);
        checks.due("server() keeps it, for the base is none", x.server(), 0);
        checks.due("flight()", x.flight(), 2);
    }
}
