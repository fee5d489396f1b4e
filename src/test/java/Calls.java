/** A call by its name, on the program or on the model: its answer as an int (true is 1), or which exception it threw. */
final class Calls {
    static final int BAD_ARGUMENT = -1001;
    static final int BAD_STATE = -1002;
    static final int OTHER_FAULT = -1003;

    private Calls() {
    }

    static int on(VaultDevices x, String name, int... a) {
        try {
            return plainly(x, name, a);
        } catch (RuntimeException e) {
            Class<?> thrown = e.getClass();
            return thrown == IllegalArgumentException.class ? BAD_ARGUMENT
                    : thrown == IllegalStateException.class ? BAD_STATE : OTHER_FAULT;
        }
    }

    /** Another exception than the two of the document would be a fault of the model, and ends the test. */
    static int on(Model x, String name, int... a) {
        try {
            return plainly(x, name, a);
        } catch (IllegalArgumentException e) {
            return BAD_ARGUMENT;
        } catch (IllegalStateException e) {
            return BAD_STATE;
        }
    }

    static String told(int answer) {
        return switch (answer) {
            case BAD_ARGUMENT -> "throws.IllegalArgumentException";
            case BAD_STATE -> "throws.IllegalStateException";
            case OTHER_FAULT -> "throws something else";
            default -> Integer.toString(answer);
        };
    }

    private static int plainly(VaultDevices x, String name, int[] a) {
        switch (name) {
            case "unlock": return bit(x.unlock(a[0], a[1]));
            case "lock": return bit(x.lock(a[0]));
            case "put": return x.put(a[0], a[1], a[2]);
            case "erase": return x.erase(a[0], a[1]);
            case "get": return x.get(a[0], a[1], a[2]);
            case "change": return x.change(a[0], a[1]);
            case "pull": return bit(x.pull(a[0]));
            case "push": return x.push(a[0]);
            case "deliver": return bit(x.deliver(a[0]));
            case "drop": return bit(x.drop(a[0]));
            case "message": return x.message(a[0], a[1]);
            case "flight": return x.flight();
            case "forge": return bit(x.forge(a[0], a[1]));
            case "plant": return bit(x.plant(a[0]));
            case "build": return x.build(a[0], a[1], a[2]);
            case "leak": return x.leak(a[0]);
            case "steal": return x.steal(a[0]);
            case "known": return bit(x.known(a[0]));
            case "term": return x.term(a[0], a[1]);
            case "atom": return x.atom(a[0]);
            case "device": return x.device(a[0], a[1]);
            case "server": return x.server();
            default: throw new AssertionError(name);
        }
    }

    private static int plainly(Model x, String name, int[] a) {
        switch (name) {
            case "unlock": return bit(x.unlock(a[0], a[1]));
            case "lock": return bit(x.lock(a[0]));
            case "put": return x.put(a[0], a[1], a[2]);
            case "erase": return x.erase(a[0], a[1]);
            case "get": return x.get(a[0], a[1], a[2]);
            case "change": return x.change(a[0], a[1]);
            case "pull": return bit(x.pull(a[0]));
            case "push": return x.push(a[0]);
            case "deliver": return bit(x.deliver(a[0]));
            case "drop": return bit(x.drop(a[0]));
            case "message": return x.message(a[0], a[1]);
            case "flight": return x.flight();
            case "forge": return bit(x.forge(a[0], a[1]));
            case "plant": return bit(x.plant(a[0]));
            case "build": return x.build(a[0], a[1], a[2]);
            case "leak": return x.leak(a[0]);
            case "steal": return x.steal(a[0]);
            case "known": return bit(x.known(a[0]));
            case "term": return x.term(a[0], a[1]);
            case "atom": return x.atom(a[0]);
            case "device": return x.device(a[0], a[1]);
            case "server": return x.server();
            default: throw new AssertionError(name);
        }
    }

    static int bit(boolean b) {
        return b ? 1 : 0;
    }
}
