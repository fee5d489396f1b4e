/** Runs each call on the program and on the model, and tells where their answers differ. */
final class Twin {
    static final int BAD_ARGUMENT = -1001;
    static final int BAD_STATE = -1002;
    private static final int MOST_CALLS = 512;

    final Model model = new Model();
    private final VaultDevices program = new VaultDevices();
    private final Checks checks;
    private int calls;

    Twin(Checks checks) {
        this.checks = checks;
    }

    /** Calls are promised up to the 512th alone, so later ones are not made. */
    boolean hasCallsLeft() {
        return calls < MOST_CALLS;
    }

    int call(String name, int... a) {
        if (!hasCallsLeft()) {
            return Model.NONE;
        }
        calls++;
        int got;
        int want;
        try {
            got = onProgram(name, a);
        } catch (IllegalArgumentException e) {
            got = BAD_ARGUMENT;
        } catch (IllegalStateException e) {
            got = BAD_STATE;
        }
        try {
            want = onModel(name, a);
        } catch (IllegalArgumentException e) {
            want = BAD_ARGUMENT;
        } catch (IllegalStateException e) {
            want = BAD_STATE;
        }
        checks.due("call " + calls + ": " + name + java.util.Arrays.toString(a), got, want);
        return got;
    }

    private int onProgram(String name, int[] a) {
        switch (name) {
            case "unlock": return bit(program.unlock(a[0], a[1]));
            case "lock": return bit(program.lock(a[0]));
            case "put": return program.put(a[0], a[1], a[2]);
            case "erase": return program.erase(a[0], a[1]);
            case "get": return program.get(a[0], a[1], a[2]);
            case "change": return program.change(a[0], a[1]);
            case "pull": return bit(program.pull(a[0]));
            case "push": return program.push(a[0]);
            case "deliver": return bit(program.deliver(a[0]));
            case "drop": return bit(program.drop(a[0]));
            case "message": return program.message(a[0], a[1]);
            case "flight": return program.flight();
            case "forge": return bit(program.forge(a[0], a[1]));
            case "plant": return bit(program.plant(a[0]));
            case "build": return program.build(a[0], a[1], a[2]);
            case "leak": return program.leak(a[0]);
            case "steal": return program.steal(a[0]);
            case "known": return bit(program.known(a[0]));
            case "term": return program.term(a[0], a[1]);
            case "atom": return program.atom(a[0]);
            case "device": return program.device(a[0], a[1]);
            case "server": return program.server();
            default: throw new UnsupportedOperationException(name);
        }
    }

    private int onModel(String name, int[] a) {
        switch (name) {
            case "unlock": return bit(model.unlock(a[0], a[1]));
            case "lock": return bit(model.lock(a[0]));
            case "put": return model.put(a[0], a[1], a[2]);
            case "erase": return model.erase(a[0], a[1]);
            case "get": return model.get(a[0], a[1], a[2]);
            case "change": return model.change(a[0], a[1]);
            case "pull": return bit(model.pull(a[0]));
            case "push": return model.push(a[0]);
            case "deliver": return bit(model.deliver(a[0]));
            case "drop": return bit(model.drop(a[0]));
            case "message": return model.message(a[0], a[1]);
            case "flight": return model.flight();
            case "forge": return bit(model.forge(a[0], a[1]));
            case "plant": return bit(model.plant(a[0]));
            case "build": return model.build(a[0], a[1], a[2]);
            case "leak": return model.leak(a[0]);
            case "steal": return model.steal(a[0]);
            case "known": return bit(model.known(a[0]));
            case "term": return model.term(a[0], a[1]);
            case "atom": return model.atom(a[0]);
            case "device": return model.device(a[0], a[1]);
            case "server": return model.server();
            default: throw new UnsupportedOperationException(name);
        }
    }

    private static int bit(boolean b) {
        return b ? 1 : 0;
    }
}
