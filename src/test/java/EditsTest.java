/** Promises 1 to 7 and 22: a new object, and what is done on a device without sending. */
public final class EditsTest {
    private static final Class<IllegalArgumentException> ARGUMENT = IllegalArgumentException.class;
    private static final Class<IllegalStateException> STATE = IllegalStateException.class;
    private static final int[] NO_DEVICE = {-1, 3, Integer.MIN_VALUE, Integer.MAX_VALUE};
    private static final int[] NO_ITEM = {-1, 4, Integer.MIN_VALUE, Integer.MAX_VALUE};
    private static final int[] NO_PASSWORD = {-1, 8, Integer.MIN_VALUE, Integer.MAX_VALUE};
    private static final int[] NO_CONTENT = {-1, 64, Integer.MIN_VALUE, Integer.MAX_VALUE};

    private final Checks checks = new Checks();

    public static void main(String[] args) {
        EditsTest test = new EditsTest();
        test.newObject();
        test.objectsAreApart();
        test.unlock();
        test.lock();
        test.lockKeeps();
        test.put();
        test.putInOrder();
        test.putFull();
        test.erase();
        test.eraseFullBeforeNone();
        test.get();
        test.change();
        test.device();
        test.checks.end();
    }

    private void newObject() {
        checks.about("promise 1, a new object");
        VaultDevices x = new VaultDevices();
        for (int d = 0; d < 3; d++) {
            checks.due("device(" + d + ", 0)", x.device(d, 0), 1);
            for (int w = 1; w <= 9; w++) {
                checks.due("device(" + d + ", " + w + ")", x.device(d, w), 0);
            }
            checks.due("device(" + d + ", 10)", x.device(d, 10), -1);
        }
        checks.due("server()", x.server(), -1);
        checks.due("flight()", x.flight(), 0);
        checks.due("term(0, 0)", x.term(0, 0), -1);
        checks.due("known(0)", x.known(0), false);
        checks.due("atom(0)", x.atom(0), -1);
        checks.due("message(0, 0)", x.message(0, 0), -1);
    }

    private void objectsAreApart() {
        checks.about("promise 1, two objects");
        VaultDevices x = new VaultDevices();
        VaultDevices y = new VaultDevices();
        x.unlock(0, 0);
        x.put(0, 0, 1);
        x.push(0);
        checks.due("the other one's device(0, 0)", y.device(0, 0), 1);
        checks.due("the other one's device(0, 1)", y.device(0, 1), 0);
        checks.due("the other one's flight()", y.flight(), 0);
        checks.due("the other one's term(0, 0)", y.term(0, 0), -1);
    }

    private void unlock() {
        checks.about("promise 2, unlock");
        VaultDevices x = new VaultDevices();
        for (int p = 1; p < 8; p++) {
            checks.due("unlock with another password", x.unlock(0, p), false);
        }
        checks.due("it stays LOCKED", x.device(0, 0), 1);
        checks.due("unlock(0, 0)", x.unlock(0, 0), true);
        checks.due("device(0, 0)", x.device(0, 0), 0);
        checks.due("device(1, 0)", x.device(1, 0), 1);
        checks.due("unlock(0, 0) once more", x.unlock(0, 0), false);
        checks.due("unlock(0, 1) when open", x.unlock(0, 1), false);
        checks.due("unlock(2, 0)", x.unlock(2, 0), true);
        for (int bad : NO_DEVICE) {
            checks.refused("unlock(" + bad + ", 0)", ARGUMENT, () -> x.unlock(bad, 0));
        }
        for (int bad : NO_PASSWORD) {
            checks.refused("unlock(0, " + bad + ") when open", ARGUMENT, () -> x.unlock(0, bad));
            checks.refused("unlock(1, " + bad + ") when LOCKED", ARGUMENT, () -> x.unlock(1, bad));
        }
        x.change(0, 7);
        x.lock(0);
        checks.due("the old password", x.unlock(0, 0), false);
        checks.due("the new password", x.unlock(0, 7), true);
    }

    private void lock() {
        checks.about("promise 3, lock");
        VaultDevices x = new VaultDevices();
        checks.due("lock(0) at first", x.lock(0), false);
        x.unlock(0, 0);
        x.put(0, 1, 9);
        checks.due("lock(0)", x.lock(0), true);
        checks.due("device(0, 0)", x.device(0, 0), 1);
        checks.due("lock(0) once more", x.lock(0), false);
        x.unlock(0, 0);
        checks.due("what it has stays", x.get(0, 1, 0), 9);
        for (int bad : NO_DEVICE) {
            checks.refused("lock(" + bad + ")", ARGUMENT, () -> x.lock(bad));
        }
    }

    private void lockKeeps() {
        checks.about("promise 3, a LOCKED device keeps its state, ACKED and BASE");
        VaultDevices x = new VaultDevices();
        x.unlock(0, 0);
        x.put(0, 1, 9);
        x.change(0, 4);
        int seal = x.push(0);
        x.deliver(0);
        x.deliver(0);
        x.lock(0);
        int[] want = {1, 1, 0, 0, 1, 0, 0, 1, 0, 1, seal};
        for (int w = 0; w < want.length; w++) {
            checks.due("device(0, " + w + ") when LOCKED", x.device(0, w), want[w]);
        }
        x.unlock(0, 4);
        for (int w = 1; w < want.length; w++) {
            checks.due("device(0, " + w + ") when open again", x.device(0, w), want[w]);
        }
    }

    private void put() {
        checks.about("promise 4, put");
        VaultDevices x = new VaultDevices();
        checks.refused("put(1, 0, 0) when LOCKED", STATE, () -> x.put(1, 0, 0));
        for (int bad : NO_DEVICE) {
            checks.refused("put(" + bad + ", 0, 0)", ARGUMENT, () -> x.put(bad, 0, 0));
        }
        for (int bad : NO_ITEM) {
            checks.refused("put(1, " + bad + ", 0) when LOCKED", ARGUMENT, () -> x.put(1, bad, 0));
        }
        for (int bad : NO_CONTENT) {
            checks.refused("put(1, 0, " + bad + ") when LOCKED", ARGUMENT, () -> x.put(1, 0, bad));
        }
        checks.due("device(1, 2) after all that", x.device(1, 2), 0);
        x.unlock(1, 0);
        checks.due("put(1, 3, 63)", x.put(1, 3, 63), 1);
        checks.due("put(1, 0, 0)", x.put(1, 0, 0), 2);
        checks.due("put(1, 3, 5)", x.put(1, 3, 5), 3);
        checks.due("device(1, 2)", x.device(1, 2), 3);
        checks.due("device(1, 1)", x.device(1, 1), 0);
        checks.due("device(1, 3)", x.device(1, 3), 0);
        checks.due("device(1, 9)", x.device(1, 9), 2);
        checks.due("get(1, 3, -1)", x.get(1, 3, -1), 1);
        checks.due("get(1, 3, 0)", x.get(1, 3, 0), 5);
        checks.due("get(1, 0, 0)", x.get(1, 0, 0), 0);
        checks.due("no term is made", x.term(0, 0), -1);
        checks.due("the header stays", x.device(1, 7) + x.device(1, 8), 0);
    }

    /** The order of a state's entries shows in the numbers of their terms. */
    private void putInOrder() {
        checks.about("promise 4, the order of the entries");
        VaultDevices x = new VaultDevices();
        x.unlock(0, 0);
        x.put(0, 3, 3);
        x.put(0, 0, 0);
        x.put(0, 2, 2);
        x.put(0, 1, 1);
        x.steal(0);
        for (int item = 0; item < 3; item++) {
            checks.due("key of item " + item + " before the next one's", x.atom(10 + item) < x.atom(11 + item), true);
            checks.due("content " + item + " before the next one", x.atom(100 + item) < x.atom(101 + item), true);
        }
    }

    private void putFull() {
        checks.about("promise 4, put until FULL");
        VaultDevices x = new VaultDevices();
        x.unlock(2, 0);
        for (int i = 1; i <= 30; i++) {
            checks.due("put " + i, x.put(2, i % 4, i), i);
        }
        checks.due("put 31", x.put(2, 0, 50), -2);
        checks.due("device(2, 3)", x.device(2, 3), 30);
        checks.due("get(2, 0, 0)", x.get(2, 0, 0), 28);
        checks.due("device(2, 9)", x.device(2, 9), 4);
        checks.refused("put(2, 4, 0) when FULL", ARGUMENT, () -> x.put(2, 4, 0));
        x.lock(2);
        checks.refused("put(2, 0, 0) when FULL and LOCKED", STATE, () -> x.put(2, 0, 0));
    }

    private void erase() {
        checks.about("promise 5, erase");
        VaultDevices x = new VaultDevices();
        checks.refused("erase(0, 0) when LOCKED", STATE, () -> x.erase(0, 0));
        for (int bad : NO_DEVICE) {
            checks.refused("erase(" + bad + ", 0)", ARGUMENT, () -> x.erase(bad, 0));
        }
        for (int bad : NO_ITEM) {
            checks.refused("erase(0, " + bad + ") when LOCKED", ARGUMENT, () -> x.erase(0, bad));
        }
        x.unlock(0, 0);
        checks.due("erase(0, 0) of nothing", x.erase(0, 0), -1);
        checks.due("device(0, 1) after that", x.device(0, 1), 0);
        x.put(0, 0, 1);
        x.put(0, 1, 2);
        checks.due("erase(0, 0)", x.erase(0, 0), 1);
        checks.due("device(0, 1)", x.device(0, 1), 3);
        checks.due("device(0, 9)", x.device(0, 9), 1);
        checks.due("get(0, 0, -1)", x.get(0, 0, -1), 0);
        checks.due("get(0, 1, 0)", x.get(0, 1, 0), 2);
        checks.due("erase(0, 0) once more", x.erase(0, 0), -1);
        checks.due("device(0, 1) stays", x.device(0, 1), 3);
    }

    private void eraseFullBeforeNone() {
        checks.about("promise 5, erase when the count is 30");
        VaultDevices x = new VaultDevices();
        x.unlock(1, 0);
        for (int i = 1; i <= 29; i++) {
            x.put(1, 0, i);
        }
        x.put(1, 1, 1);
        checks.due("erase(1, 0) where there is one", x.erase(1, 0), -2);
        checks.due("erase(1, 2) where there is none", x.erase(1, 2), -2);
        checks.due("get(1, 0, 0)", x.get(1, 0, 0), 29);
        checks.refused("erase(1, 4)", ARGUMENT, () -> x.erase(1, 4));
        VaultDevices y = new VaultDevices();
        y.unlock(1, 0);
        for (int i = 1; i <= 29; i++) {
            y.put(1, 0, i);
        }
        checks.due("erase(1, 0) as the 30th", y.erase(1, 0), 1);
        checks.due("device(1, 2)", y.device(1, 2), 30);
    }

    private void get() {
        checks.about("promise 6, get");
        VaultDevices x = new VaultDevices();
        checks.refused("get(0, 0, -1) when LOCKED", STATE, () -> x.get(0, 0, -1));
        checks.refused("get(0, 0, 7) when LOCKED", STATE, () -> x.get(0, 0, 7));
        for (int bad : NO_DEVICE) {
            checks.refused("get(" + bad + ", 0, 0)", ARGUMENT, () -> x.get(bad, 0, 0));
        }
        for (int bad : NO_ITEM) {
            checks.refused("get(0, " + bad + ", 0) when LOCKED", ARGUMENT, () -> x.get(0, bad, 0));
        }
        x.unlock(0, 0);
        checks.due("get(0, 2, -1)", x.get(0, 2, -1), 0);
        checks.due("get(0, 2, 0)", x.get(0, 2, 0), -1);
        x.put(0, 1, 11);
        x.put(0, 2, 22);
        checks.due("get(0, 2, -1)", x.get(0, 2, -1), 1);
        checks.due("get(0, 2, 0)", x.get(0, 2, 0), 22);
        checks.due("get(0, 2, 1)", x.get(0, 2, 1), -1);
        checks.due("get(0, 2, -2)", x.get(0, 2, -2), -1);
        checks.due("get(0, 2, least)", x.get(0, 2, Integer.MIN_VALUE), -1);
        checks.due("get(0, 2, greatest)", x.get(0, 2, Integer.MAX_VALUE), -1);
        checks.due("get(0, 3, 0)", x.get(0, 3, 0), -1);
    }

    private void change() {
        checks.about("promise 7, change");
        VaultDevices x = new VaultDevices();
        checks.refused("change(2, 1) when LOCKED", STATE, () -> x.change(2, 1));
        for (int bad : NO_DEVICE) {
            checks.refused("change(" + bad + ", 1)", ARGUMENT, () -> x.change(bad, 1));
        }
        for (int bad : NO_PASSWORD) {
            checks.refused("change(2, " + bad + ") when LOCKED", ARGUMENT, () -> x.change(2, bad));
        }
        x.unlock(2, 0);
        for (int i = 1; i <= 30; i++) {
            checks.due("change " + i, x.change(2, i % 8), i);
        }
        checks.due("device(2, 7)", x.device(2, 7), 30);
        checks.due("device(2, 8)", x.device(2, 8), 2);
        checks.due("change 31", x.change(2, 1), -2);
        checks.due("device(2, 7)", x.device(2, 7), 30);
        checks.due("the vector stays", x.device(2, 3), 0);
        checks.due("device(0, 7)", x.device(0, 7), 0);
        checks.refused("change(2, 8) when FULL", ARGUMENT, () -> x.change(2, 8));
        x.lock(2);
        checks.refused("change(2, 1) when FULL and LOCKED", STATE, () -> x.change(2, 1));
        checks.due("the password that came too late", x.unlock(2, 1), false);
        checks.due("the last password", x.unlock(2, 6), true);
    }

    private void device() {
        checks.about("promise 22, device");
        VaultDevices x = new VaultDevices();
        for (int bad : NO_DEVICE) {
            checks.due("device(" + bad + ", 0)", x.device(bad, 0), -1);
        }
        checks.due("device(0, -1)", x.device(0, -1), -1);
        checks.due("device(0, 11)", x.device(0, 11), -1);
        checks.due("device(0, least)", x.device(0, Integer.MIN_VALUE), -1);
        checks.due("device(0, greatest)", x.device(0, Integer.MAX_VALUE), -1);
        x.unlock(0, 0);
        x.unlock(1, 0);
        x.put(1, 0, 1);
        x.put(1, 1, 1);
        x.change(1, 3);
        int seal = x.push(1);
        x.deliver(0);
        x.put(1, 2, 1);
        checks.due("ACKED before the REPLY", x.device(1, 5), 0);
        x.deliver(0);
        int[] want = {0, 0, 3, 0, 0, 2, 0, 1, 1, 3, seal};
        for (int w = 0; w < want.length; w++) {
            checks.due("device(1, " + w + ")", x.device(1, w), want[w]);
        }
    }
}
