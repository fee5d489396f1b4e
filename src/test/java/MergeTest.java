/** How devices merge what they take over: entries side by side, edits that win, vectors and headers. */
public final class MergeTest {
    private final Checks checks = new Checks();

    public static void main(String[] args) {
        MergeTest test = new MergeTest();
        test.sideBySide();
        test.orderOfDevices();
        test.editWins();
        test.eraseWins();
        test.eraseLosesAgainstWhatItDidNotKnow();
        test.vectors();
        test.twelveEntries();
        test.greaterGeneration();
        test.lesserDevice();
        test.staysOpen();
        test.greatestCounts();
        test.checks.end();
    }

    private static VaultDevices open() {
        VaultDevices x = new VaultDevices();
        for (int d = 0; d < 3; d++) {
            x.unlock(d, 0);
        }
        return x;
    }

    /** Hands the state of one device to another one. */
    private static int hand(VaultDevices x, int from, int to) {
        int seal = x.steal(from);
        x.forge(to, seal);
        x.deliver(x.flight() - 1);
        return seal;
    }

    private void sideBySide() {
        checks.about("edits that did not know of one another stay side by side");
        VaultDevices x = open();
        x.put(0, 1, 10);
        x.put(1, 1, 20);
        hand(x, 0, 1);
        checks.due("get(1, 1, -1)", x.get(1, 1, -1), 2);
        checks.due("get(1, 1, 0)", x.get(1, 1, 0), 10);
        checks.due("get(1, 1, 1)", x.get(1, 1, 1), 20);
        checks.due("get(1, 1, 2)", x.get(1, 1, 2), -1);
        checks.due("device 0 knows of nothing", x.get(0, 1, -1), 1);
        checks.due("put(1, 1, 30) takes the place of both", x.put(1, 1, 30), 2);
        checks.due("get(1, 1, -1)", x.get(1, 1, -1), 1);
        checks.due("get(1, 1, 0)", x.get(1, 1, 0), 30);
        hand(x, 1, 0);
        checks.due("get(0, 1, -1)", x.get(0, 1, -1), 1);
        checks.due("get(0, 1, 0)", x.get(0, 1, 0), 30);
    }

    private void orderOfDevices() {
        checks.about("the entries of an item are in the order of the dots' devices");
        VaultDevices x = open();
        x.put(0, 0, 7);
        x.put(0, 0, 3);
        x.put(1, 0, 2);
        x.put(2, 0, 1);
        x.put(2, 1, 9);
        hand(x, 1, 2);
        hand(x, 0, 2);
        checks.due("get(2, 0, 0), for device 0's state was not ABOVE", x.get(2, 0, 0), 2);
        hand(x, 1, 0);
        int both = hand(x, 0, 2);
        checks.due("device(2, 10)", x.device(2, 10), both);
        checks.due("get(2, 0, 0)", x.get(2, 0, 0), 3);
        checks.due("get(2, 0, 1)", x.get(2, 0, 1), 2);
        checks.due("get(2, 0, 2)", x.get(2, 0, 2), 1);
        checks.due("get(2, 1, 0)", x.get(2, 1, 0), 9);
        checks.due("erase(2, 0)", x.erase(2, 0), 3);
        checks.due("device(2, 9)", x.device(2, 9), 1);
    }

    private void editWins() {
        checks.about("an edit wins against what it knew of");
        VaultDevices x = open();
        x.put(0, 2, 1);
        hand(x, 0, 1);
        x.put(1, 2, 2);
        hand(x, 1, 0);
        checks.due("get(0, 2, -1)", x.get(0, 2, -1), 1);
        checks.due("get(0, 2, 0)", x.get(0, 2, 0), 2);
        int old = x.steal(0);
        x.put(0, 2, 3);
        x.forge(0, old);
        x.deliver(0);
        checks.due("what the device knows does not come back", x.get(0, 2, -1), 1);
        checks.due("get(0, 2, 0)", x.get(0, 2, 0), 3);
    }

    private void eraseWins() {
        checks.about("what was erased goes elsewhere, too");
        VaultDevices x = open();
        x.put(0, 3, 1);
        x.put(0, 2, 2);
        hand(x, 0, 1);
        checks.due("erase(1, 3)", x.erase(1, 3), 1);
        hand(x, 1, 0);
        checks.due("get(0, 3, -1)", x.get(0, 3, -1), 0);
        checks.due("get(0, 2, 0), which both have, stays", x.get(0, 2, 0), 2);
        checks.due("device(0, 2)", x.device(0, 2), 1);
    }

    private void eraseLosesAgainstWhatItDidNotKnow() {
        checks.about("an erase does not touch what it did not know of");
        VaultDevices x = open();
        x.put(0, 3, 1);
        hand(x, 0, 1);
        x.put(0, 3, 2);
        x.erase(1, 3);
        hand(x, 1, 0);
        checks.due("get(0, 3, 0)", x.get(0, 3, 0), 2);
        hand(x, 0, 1);
        checks.due("get(1, 3, 0)", x.get(1, 3, 0), 2);
        checks.due("get(1, 3, -1)", x.get(1, 3, -1), 1);
    }

    private void vectors() {
        checks.about("of each count the greater one is taken");
        VaultDevices x = open();
        for (int i = 0; i < 3; i++) {
            x.put(0, 0, i);
        }
        x.put(1, 1, 1);
        x.put(1, 1, 2);
        hand(x, 0, 1);
        int[] want = {3, 2, 0, 3, 0, 0};
        for (int w = 1; w <= 6; w++) {
            checks.due("device(1, " + w + ")", x.device(1, w), want[w - 1]);
        }
        checks.due("put(1, 0, 5)", x.put(1, 0, 5), 3);
        checks.due("device(1, 1)", x.device(1, 1), 3);
    }

    private void twelveEntries() {
        checks.about("three devices' edits of four items are 12 entries");
        VaultDevices x = open();
        for (int item = 0; item < 4; item++) {
            for (int d = 0; d < 3; d++) {
                x.put(d, item, 16 * d + item);
            }
        }
        hand(x, 0, 1);
        hand(x, 1, 2);
        checks.due("device(2, 9)", x.device(2, 9), 12);
        for (int item = 0; item < 4; item++) {
            checks.due("get(2, item, -1)", x.get(2, item, -1), 3);
            for (int k = 0; k < 3; k++) {
                checks.due("get(2, " + item + ", " + k + ")", x.get(2, item, k), 16 * k + item);
            }
        }
        int seal = hand(x, 2, 0);
        checks.due("a state with 12 is a SEAL", x.device(0, 10), seal);
        checks.due("device(0, 9)", x.device(0, 9), 12);
        checks.due("put(0, 3, 60) where 12 are", x.put(0, 3, 60), 5);
        checks.due("device(0, 9)", x.device(0, 9), 10);
    }

    private void greaterGeneration() {
        checks.about("the header with the greater generation stays");
        VaultDevices x = open();
        x.change(1, 3);
        x.change(2, 4);
        x.change(2, 5);
        hand(x, 2, 1);
        checks.due("device(1, 7)", x.device(1, 7), 2);
        checks.due("device(1, 8)", x.device(1, 8), 2);
        x.lock(1);
        checks.due("unlock(1, 3)", x.unlock(1, 3), false);
        checks.due("unlock(1, 5)", x.unlock(1, 5), true);
        x.change(0, 6);
        hand(x, 0, 2);
        checks.due("a lesser one is not taken", x.device(2, 7), 2);
        checks.due("nor its device", x.device(2, 8), 2);
        x.lock(2);
        checks.due("nor its password", x.unlock(2, 5), true);
        checks.due("change(1, 0)", x.change(1, 0), 3);
    }

    private void lesserDevice() {
        checks.about("of equal generations the lesser device's header stays");
        VaultDevices x = open();
        x.change(1, 3);
        x.change(2, 4);
        hand(x, 2, 1);
        checks.due("device(1, 8)", x.device(1, 8), 1);
        x.lock(1);
        checks.due("unlock(1, 3)", x.unlock(1, 3), true);
        hand(x, 1, 2);
        checks.due("device(2, 8)", x.device(2, 8), 1);
        checks.due("device(2, 7)", x.device(2, 7), 1);
        x.lock(2);
        checks.due("unlock(2, 4)", x.unlock(2, 4), false);
        checks.due("unlock(2, 3)", x.unlock(2, 3), true);
    }

    private void greatestCounts() {
        checks.about("the count 30 and the generation 30 can be sealed, too");
        VaultDevices x = open();
        for (int i = 1; i <= 30; i++) {
            x.put(0, 1, i);
            x.change(0, i % 8);
        }
        int seal = hand(x, 0, 1);
        checks.due("device(1, 10)", x.device(1, 10), seal);
        checks.due("device(1, 1)", x.device(1, 1), 30);
        checks.due("device(1, 4)", x.device(1, 4), 30);
        checks.due("device(1, 7)", x.device(1, 7), 30);
        checks.due("get(1, 1, 0)", x.get(1, 1, 0), 30);
        checks.due("change(1, 0)", x.change(1, 0), -2);
        checks.due("put(1, 1, 5), by its own count", x.put(1, 1, 5), 1);
    }

    private void staysOpen() {
        checks.about("a device stays open whatever its header is then");
        VaultDevices x = open();
        x.change(0, 1);
        hand(x, 0, 1);
        checks.due("device(1, 0)", x.device(1, 0), 0);
        checks.due("put(1, 0, 0)", x.put(1, 0, 0), 1);
        checks.due("device(1, 7)", x.device(1, 7), 1);
    }
}
