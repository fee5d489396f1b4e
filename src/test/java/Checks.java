/** Counts and prints the calls whose answer is not the one that is due. */
final class Checks {
    private int wrong;
    private String about = "";

    void about(String promise) {
        about = promise;
    }

    void due(String call, long got, long want) {
        if (got != want) {
            tell(call + " answered " + got + ", due is " + want);
        }
    }

    void due(String call, boolean got, boolean want) {
        if (got != want) {
            tell(call + " answered " + got + ", due is " + want);
        }
    }

    /** The call must throw just this class of exception. */
    void refused(String call, Class<? extends RuntimeException> want, Runnable run) {
        try {
            run.run();
            tell(call + " threw nothing, due is " + want.getSimpleName());
        } catch (RuntimeException e) {
            if (e.getClass() != want) {
                tell(call + " threw " + e + ", due is " + want.getSimpleName());
            }
        }
    }

    void tell(String what) {
        wrong++;
        System.out.println(about + ": " + what);
    }

    void end() {
        System.out.println(wrong == 0 ? "all answers are as due" : wrong + " answers are not as due");
        if (wrong != 0) {
            System.exit(1);
        }
    }
}
