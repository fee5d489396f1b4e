/** Runs each call on the program and on the model, and tells where their answers differ. */
final class Twin {
    final Model model = new Model();
    private final VaultDevices program = new VaultDevices();
    private final Checks checks;
    private final boolean endsQuietly;
    private Run run = new Run();

    Twin(Checks checks) {
        this(checks, false);
    }

    /** Calls are promised up to the 512th alone: later ones are not made, quietly, or are a fault of the test. */
    Twin(Checks checks, boolean endsQuietly) {
        this.checks = checks;
        this.endsQuietly = endsQuietly;
    }

    boolean hasCallsLeft() {
        return run.size() < Run.MOST_CALLS;
    }

    /** All calls so far, to be played again. */
    Run run() {
        return run;
    }

    int call(String name, int... a) {
        if (!hasCallsLeft() && endsQuietly) {
            return Model.NONE;
        }
        if (!hasCallsLeft()) {
            throw new AssertionError("no calls are left for " + Run.told(name, a));
        }
        run = run.then(name, a);
        int got = Calls.on(program, name, a);
        checks.due("call " + run.size() + ": " + run.lastCall(), got, onModel(name, a));
        return got;
    }

    private int onModel(String name, int[] a) {
        try {
            return plainly(name, a);
        } catch (IllegalArgumentException e) {
            return Calls.BAD_ARGUMENT;
        } catch (IllegalStateException e) {
            return Calls.BAD_STATE;
        }
    }

    private int plainly(String name, int[] a) {
        switch (name) {
            case "unlock": return Calls.bit(model.unlock(a[0], a[1]));
            case "lock": return Calls.bit(model.lock(a[0]));
            case "put": return model.put(a[0], a[1], a[2]);
            case "erase": return model.erase(a[0], a[1]);
            case "get": return model.get(a[0], a[1], a[2]);
            case "change": return model.change(a[0], a[1]);
            case "pull": return Calls.bit(model.pull(a[0]));
            case "push": return model.push(a[0]);
            case "deliver": return Calls.bit(model.deliver(a[0]));
            case "drop": return Calls.bit(model.drop(a[0]));
            case "message": return model.message(a[0], a[1]);
            case "flight": return model.flight();
            case "forge": return Calls.bit(model.forge(a[0], a[1]));
            case "plant": return Calls.bit(model.plant(a[0]));
            case "build": return model.build(a[0], a[1], a[2]);
            case "leak": return model.leak(a[0]);
            case "steal": return model.steal(a[0]);
            case "known": return Calls.bit(model.known(a[0]));
            case "term": return model.term(a[0], a[1]);
            case "atom": return model.atom(a[0]);
            case "device": return model.device(a[0], a[1]);
            case "server": return model.server();
            default: throw new AssertionError(name);
        }
    }
}
