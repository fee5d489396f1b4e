/** Runs each call on the program and on the model, and tells where their answers differ. */
final class Twin {
    final Model model = new Model();
    private final VaultDevices program = new VaultDevices();
    private final Checks checks;
    private final boolean endsQuietly;
    private Run run = new Run();

    Twin(Checks checks) {
        this(checks, false);
    }

    /** Calls are promised up to the 512th alone: later ones are not made, quietly, or are a fault of the test. */
    Twin(Checks checks, boolean endsQuietly) {
        this.checks = checks;
        this.endsQuietly = endsQuietly;
    }

    boolean hasCallsLeft() {
        return run.size() < Run.MOST_CALLS;
    }

    /** All calls so far, to be played again. */
    Run run() {
        return run;
    }

    int call(String name, int... a) {
        if (!hasCallsLeft() && endsQuietly) {
            return Model.NONE;
        }
        if (!hasCallsLeft()) {
            throw new AssertionError("no calls are left for " + Run.told(name, a));
        }
        run = run.then(name, a);
        int got = Calls.on(program, name, a);
        checks.due("call " + run.size() + ": " + run.lastCall(), got, Calls.on(model, name, a));
        return got;
    }
}
