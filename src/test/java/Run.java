import java.util.ArrayList;
import java.util.Arrays;
import java.util.List;

/**
 * A run of calls on a new object, never changed, only made longer. It is played again for every look at what became
 * of it, because an object has 512 calls alone and a whole look takes thousands.
 */
final class Run {
    static final int MOST_CALLS = 512;
    private static final int DEVICES = 3;
    private static final int SLICE = 100;

    private final Run before;
    private final String name;
    private final int[] a;
    private final int size;
    private List<Integer> seen;

    Run() {
        this(null, "", new int[0], 0);
    }

    private Run(Run before, String name, int[] a, int size) {
        this.before = before;
        this.name = name;
        this.a = a;
        this.size = size;
    }

    Run then(String next, int... args) {
        return new Run(this, next, args.clone(), size + 1);
    }

    int size() {
        return size;
    }

    /** A new object with this run behind it. */
    VaultDevices played() {
        VaultDevices x = new VaultDevices();
        play(x);
        return x;
    }

    /** The answers of all its calls. */
    int[] answers() {
        return play(new VaultDevices());
    }

    /** The answers that are due, as the model gives them. */
    int[] dueAnswers() {
        Model model = new Model();
        Run[] steps = steps();
        int[] answers = new int[size];
        for (int i = 0; i < size; i++) {
            answers[i] = Calls.on(model, steps[i].name, steps[i].a);
        }
        return answers;
    }

    /** The answer of one call more. */
    int answer(String next, int... args) {
        return then(next, args).lastAnswer();
    }

    int lastAnswer() {
        return answers()[size - 1];
    }

    String lastCall() {
        return told(name, a);
    }

    static String told(String name, int... a) {
        return name + Arrays.toString(a).replace('[', '(').replace(']', ')');
    }

    private int[] play(VaultDevices x) {
        Run[] steps = steps();
        int[] answers = new int[size];
        for (int i = 0; i < size; i++) {
            answers[i] = Calls.on(x, steps[i].name, steps[i].a);
        }
        return answers;
    }

    private Run[] steps() {
        if (size > MOST_CALLS) {
            throw new AssertionError("a run of " + size + " calls");
        }
        Run[] steps = new Run[size];
        for (Run step = this; step.before != null; step = step.before) {
            steps[step.size - 1] = step;
        }
        return steps;
    }

    /** The call at this place of the run, from 0. */
    String callAt(int index) {
        return steps()[index].lastCall();
    }

    int countTerms() {
        VaultDevices x = played();
        int low = 0;
        int high = 1000;
        while (low < high) {
            int middle = (low + high) / 2;
            if (x.term(middle, 0) == VaultDevices.NONE) {
                high = middle;
            } else {
                low = middle + 1;
            }
        }
        return low;
    }

    /** All that can be seen after this run: devices, messages, terms, passwords, contents, and (by their disks) dots. */
    List<Integer> sight() {
        if (seen == null) {
            seen = new ArrayList<>();
            for (Run look : looks()) {
                int[] answers = look.answers();
                for (int i = size; i < answers.length; i++) {
                    seen.add(answers[i]);
                }
            }
        }
        return seen;
    }

    /** This run with calls behind it that look at what became of it; all of them together see all. */
    List<Run> looks() {
        List<Run> looks = new ArrayList<>();
        looks.add(mail());
        for (int d = 0; d < DEVICES; d++) {
            looks.add(device(d));
        }
        int terms = countTerms();
        addTerms(looks, this, 0, terms);
        Run stolen = this;
        for (int d = 0; d < DEVICES; d++) {
            stolen = stolen.then("steal", d);
        }
        looks.add(stolen);
        addTerms(looks, stolen, terms, stolen.countTerms());
        return looks;
    }

    private Run mail() {
        Run look = then("flight").then("server");
        for (int m = 0; m <= 12; m++) {
            for (int w = 0; w < 4; w++) {
                look = look.then("message", m, w);
            }
        }
        return look;
    }

    /** It is LOCKED at last to see which password fits, for an open device tells none. */
    private Run device(int d) {
        Run look = this;
        for (int w = 0; w <= 10; w++) {
            look = look.then("device", d, w);
        }
        look = look.then("lock", d);
        for (int password = 0; password < 8; password++) {
            look = look.then("unlock", d, password);
        }
        for (int item = 0; item < 4; item++) {
            for (int k = -1; k < 12; k++) {
                look = look.then("get", d, item, k);
            }
        }
        return look;
    }

    /** The terms from the first one on, and that there is none behind the last one. */
    private static void addTerms(List<Run> looks, Run from, int first, int count) {
        for (int t = first; t <= count; t += SLICE) {
            Run kinds = from;
            Run parts = from;
            for (int i = t; i <= count && i < t + SLICE; i++) {
                kinds = kinds.then("term", i, 0).then("known", i);
                parts = parts.then("term", i, 1).then("term", i, 2);
            }
            looks.add(kinds);
            looks.add(parts);
        }
    }
}
