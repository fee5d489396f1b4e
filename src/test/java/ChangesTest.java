import java.util.ArrayList;
import java.util.List;

/**
 * A call changes what its promise tells and nothing else: behind runs that come to different places each call is made
 * once, with each fitting argument, and all that can be seen of the object then is what the model shows.
 */
public final class ChangesTest {
    private final Checks checks = new Checks();
    private int done;

    public static void main(String[] args) {
        ChangesTest test = new ChangesTest();
        test.each("a new object", Edges.fresh());
        test.each("open devices", Edges.open());
        test.each("something of everything", Edges.busy());
        test.each("devices in step", Edges.synced());
        test.each("REPLYs to all under way", Edges.replies(Edges.synced(), 3));
        test.each("12 messages", Edges.replies(Edges.busy(), 12));
        test.each("counts of 29", Edges.count(1, 29));
        test.each("generations of 29", Edges.generation(2, 29));
        test.checks.due("calls that did something", test.done > 400, true);
        test.checks.end();
    }

    private void each(String about, Run run) {
        for (Run longer : calls(run)) {
            checks.about("after " + longer.lastCall() + " behind " + about);
            if (longer.lastAnswer() >= 0) {
                done++;
            }
            for (Run look : longer.looks()) {
                compare(look, run.size());
            }
        }
    }

    private void compare(Run look, int from) {
        int[] got = look.answers();
        int[] due = look.dueAnswers();
        for (int i = from; i < got.length; i++) {
            checks.due(look.callAt(i), got[i], due[i]);
        }
    }

    /** The run with each call behind it; terms and messages are some that there are, and one more. */
    private static List<Run> calls(Run run) {
        List<Run> calls = new ArrayList<>();
        int flight = run.answer("flight");
        int terms = run.countTerms();
        for (int d = 0; d < 3; d++) {
            addOfDevice(calls, run, d);
            addOfTerms(calls, run, d, terms);
        }
        for (int m = 0; m <= flight; m++) {
            calls.add(run.then("deliver", m));
            calls.add(run.then("drop", m));
            calls.add(run.then("message", m, m % 4));
        }
        for (int n = 0; n <= 9; n++) {
            calls.add(run.then("leak", n));
            calls.add(run.then("atom", n));
        }
        calls.add(run.then("flight"));
        calls.add(run.then("server"));
        return calls;
    }

    private static void addOfDevice(List<Run> calls, Run run, int d) {
        for (int password = 0; password < 8; password += 5) {
            calls.add(run.then("unlock", d, password));
            calls.add(run.then("change", d, password));
        }
        for (int item = 0; item < 4; item++) {
            calls.add(run.then("put", d, item, 60 + item));
            calls.add(run.then("erase", d, item));
        }
        calls.add(run.then("get", d, 0, 0));
        for (String name : new String[] {"lock", "pull", "push", "steal"}) {
            calls.add(run.then(name, d));
        }
        calls.add(run.then("device", d, 9));
    }

    /** What somebody does with the server's term, with the newest ones and with the first ones. */
    private static void addOfTerms(List<Run> calls, Run run, int d, int terms) {
        for (int t : new int[] {run.answer("server"), terms - 1 - d, d, terms}) {
            calls.add(run.then("forge", d, t));
            calls.add(run.then("plant", t));
            calls.add(run.then("build", 2 + d, t, 0));
            calls.add(run.then("build", 3 + d, 0, t));
            calls.add(run.then("known", t));
            calls.add(run.then("term", t, d));
        }
    }
}
