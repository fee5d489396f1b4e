import java.util.Random;

/** What is full: 900 terms, 12 entries, 12 messages, counts and generations of 30, 512 calls; just so many, and one more. */
public final class LimitsTest extends Forger {
    private static final int NONE = -1;
    private static final int FULL = -2;

    public static void main(String[] args) {
        LimitsTest test = new LimitsTest();
        test.countOfPuts();
        test.countOfErases();
        test.countThatCame();
        test.countOfOthers();
        test.generations();
        test.generationThatCame();
        test.elevenAndTwelveEntries();
        test.mergesOfTwelve();
        test.mergeThatTakesAndLeaves();
        test.lostPulls();
        test.lostPushes();
        test.lostTermsAreKnown();
        test.roomForReplies();
        test.noRoomNeededForReplies();
        test.lastTerms();
        test.equalTermsWhenFull();
        test.fullDoesNotStopTheRest();
        test.lastCall();
        test.callsBeyond();
        test.checks.end();
    }

    private void due(Run run, int want, String name, int... a) {
        checks.due(Run.told(name, a), run.answer(name, a), want);
    }

    private void countOfPuts() {
        checks.about("promise 4: FULL if the count is 30");
        for (int d = 0; d < 3; d++) {
            due(Edges.count(d, 28), 29, "put", d, 0, 0);
            due(Edges.count(d, 29), 30, "put", d, 0, 0);
            due(Edges.count(d, 30), FULL, "put", d, 0, 0);
            due(Edges.count(d, 30).then("put", d, 0, 0), 30, "device", d, 1 + d);
        }
    }

    private void countOfErases() {
        checks.about("promise 5: its count grows by 1; FULL if the count is 30");
        for (int d = 0; d < 3; d++) {
            Run last = Edges.count(d, 29).then("erase", d, 1);
            checks.due("the 30th", last.lastAnswer(), 1);
            due(last, 30, "device", d, 1 + d);
            due(last, FULL, "erase", d, 0);
            due(last, FULL, "put", d, 1, 1);
            due(last, 1, "device", d, 9);
        }
    }

    private void countThatCame() {
        startUpTo("promises 4 and 5: FULL if the count is 30, though the device made no edit", 30);
        taken("30 29 30", plain(vector(30, 29, 30), entries(entry(0, 0, 30, box0))), true);
        checks.due("put(0, 0, 0)", x.call("put", 0, 0, 0), FULL);
        checks.due("erase(0, 0)", x.call("erase", 0, 0), FULL);
        checks.due("get(0, 0, 0)", x.call("get", 0, 0, 0), 50);
        for (int w = 1; w <= 6; w++) {
            checks.due("device(0, " + w + ")", x.call("device", 0, w), w % 3 == 2 ? 29 : 30);
        }
        int seal = x.call("push", 0);
        checks.due("forge to device 1", x.call("forge", 1, seal), 1);
        checks.due("deliver(1)", x.call("deliver", 1), 1);
        checks.due("put(1, 0, 0), as its count is 29", x.call("put", 1, 0, 0), 30);
        checks.due("put(1, 0, 0) then", x.call("put", 1, 0, 0), FULL);
    }

    private void countOfOthers() {
        checks.about("promises 4 and 5: the count is the one of the device itself");
        Run run = Edges.count(0, 30).then("steal", 0);
        int seal = run.lastAnswer();
        run = run.then("forge", 1, seal).then("deliver", 0);
        due(run, 30, "device", 1, 1);
        due(run, 1, "put", 1, 0, 0);
        due(run, 1, "erase", 1, 0);
        due(run, FULL, "put", 0, 0, 0);
    }

    private void generations() {
        checks.about("promise 7: FULL if it is 30");
        for (int d = 0; d < 3; d++) {
            due(Edges.generation(d, 28), 29, "change", d, 1);
            due(Edges.generation(d, 29), 30, "change", d, 1);
            due(Edges.generation(d, 30), FULL, "change", d, 1);
            due(Edges.generation(d, 30), 30, "device", d, 7);
        }
    }

    private void generationThatCame() {
        checks.about("promise 7: FULL if it is 30, though another device made it so");
        Run run = Edges.generation(2, 30).then("steal", 2);
        int seal = run.lastAnswer();
        run = run.then("forge", 1, seal).then("deliver", 0);
        due(run, 30, "device", 1, 7);
        due(run, 2, "device", 1, 8);
        due(run, FULL, "change", 1, 1);
        due(run, 1, "change", 0, 1);
    }

    private void elevenAndTwelveEntries() {
        start("promise 4: FULL if there would be more than 12 entries");
        int[] eleven = many(0, 2, 11, box0);
        taken("11 entries", plain(vector(0, 0, 11), entries(eleven)), true);
        checks.due("the 12th", x.call("put", 0, 1, 1), 1);
        checks.due("device(0, 9)", x.call("device", 0, 9), 12);
        checks.due("the 13th", x.call("put", 0, 2, 1), FULL);
        checks.due("in the place of the 12th", x.call("put", 0, 1, 2), 2);
        checks.due("device(0, 9)", x.call("device", 0, 9), 12);
        checks.due("in the place of 11", x.call("put", 0, 0, 3), 3);
        checks.due("device(0, 9)", x.call("device", 0, 9), 2);
        checks.due("where there is room again", x.call("put", 0, 2, 1), 4);
    }

    private void mergesOfTwelve() {
        for (int own = 0; own <= 3; own++) {
            for (int more = 9; more <= 12; more++) {
                start("promise 10: a merge that would give more than 12 entries does not happen, " + own + " and " + more);
                for (int item = 1; item <= own; item++) {
                    x.call("put", 0, item, item);
                }
                int seal = sealed(state(1, 1, header, vector(0, 1, more), entries(many(0, 2, more, box0))));
                boolean fits = own + more <= 12;
                taken("the state", seal, fits);
                int[] due = {0, own, fits ? 1 : 0, fits ? more : 0, 0, fits ? 1 : 0, fits ? more : 0, fits ? 1 : 0,
                    fits ? 1 : 0, fits ? own + more : own, fits ? seal : NONE};
                for (int w = 0; w <= 10; w++) {
                    checks.due("device(0, " + w + ")", x.call("device", 0, w), due[w]);
                }
            }
        }
    }

    private void mergeThatTakesAndLeaves() {
        start("promise 10: 12 entries that go and 12 that come are never 24");
        taken("12 entries", plain(vector(0, 0, 12), entries(many(0, 2, 12, box0))), true);
        taken("12 others", plain(vector(0, 12, 12), entries(many(1, 1, 12, box1))), true);
        checks.due("get(0, 0, -1)", x.call("get", 0, 0, -1), 0);
        checks.due("get(0, 1, -1)", x.call("get", 0, 1, -1), 12);
        checks.due("device(0, 9)", x.call("device", 0, 9), 12);
    }

    private void lostPulls() {
        checks.about("promise 8: true (also if it is lost)");
        for (int d = 0; d < 3; d++) {
            due(Edges.mail(11), 1, "pull", d);
            due(Edges.mail(11).then("pull", d), 12, "flight");
            due(Edges.mail(11).then("pull", d), d, "message", 11, 1);
            due(Edges.mail(12), 1, "pull", d);
            checks.due("a lost PULL of " + d + " changes nothing",
                    Edges.mail(12).then("pull", d).sight().equals(Edges.mail(12).sight()), true);
        }
    }

    private void lostPushes() {
        checks.about("promise 9: the number of that term (also if the message is lost)");
        Run eleven = Edges.mail(11).then("put", 1, 2, 3);
        Run twelve = Edges.mail(12).then("put", 1, 2, 3);
        int seal = eleven.answer("push", 1);
        checks.due("the number of the seal", eleven.then("push", 1).countTerms(), seal + 1);
        due(eleven.then("push", 1), 12, "flight");
        due(eleven.then("push", 1), seal, "message", 11, 3);
        due(twelve, seal, "push", 1);
        due(twelve.then("push", 1), 12, "flight");
        due(twelve.then("push", 1), NONE, "message", 12, 0);
        due(twelve.then("push", 1).then("drop", 0), 11, "flight");
        for (int m = 0; m < 12; m++) {
            due(twelve.then("push", 1), 0, "message", m, 0);
        }
    }

    private void lostTermsAreKnown() {
        checks.about("what is sent while there are 12 is lost, but its terms (a PUSH's base, too) are KNOWN all the same");
        Run run = Edges.open().then("put", 0, 1, 7).then("push", 0).then("deliver", 0).then("deliver", 0);
        int base = run.answer("device", 0, 10);
        run = run.then("put", 0, 1, 8);
        for (int i = 0; i < 12; i++) {
            run = run.then("pull", 2);
        }
        int before = run.countTerms();
        run = run.then("push", 0);
        int seal = run.lastAnswer();
        due(run, 1, "known", seal);
        due(run, 1, "known", run.answer("term", seal, 1));
        due(run, 1, "known", run.answer("term", seal, 2));
        due(run, 1, "known", base);
        due(run, 0, "known", run.answer("atom", 108));
        for (int t = before; t <= seal; t++) {
            int kind = run.answer("term", t, 0);
            due(run, kind == 0 ? 0 : 1, "known", t);
        }
    }

    private void roomForReplies() {
        checks.about("promise 10: it is under way no more then, so that there is room");
        for (int m = 0; m < 12; m++) {
            Run run = Edges.mail(12).then("deliver", m);
            checks.due("deliver(" + m + ")", run.lastAnswer(), 1);
            due(run, 12, "flight");
            due(run, 2, "message", 11, 0);
            due(run, 0, "message", 10, 0);
        }
        Run run = Edges.open().then("put", 1, 0, 0).then("push", 1);
        int seal = run.lastAnswer();
        for (int i = 1; i < 12; i++) {
            run = run.then("pull", 2);
        }
        run = run.then("deliver", 0);
        due(run, 12, "flight");
        due(run, seal, "server");
        due(run, 2, "message", 11, 0);
        due(run, 1, "message", 11, 1);
        due(run, seal, "message", 11, 3);
        due(run, 2, "message", 0, 1);
    }

    private void noRoomNeededForReplies() {
        checks.about("promise 10: a REPLY that comes leaves room behind it");
        Run run = Edges.mail(12).then("deliver", 0).then("deliver", 11);
        checks.due("deliver(11)", run.lastAnswer(), 1);
        due(run, 11, "flight");
        due(run, NONE, "message", 11, 0);
        due(run, 0, "message", 10, 0);
    }

    private void lastTerms() {
        checks.about("TERMS are numbered 0, 1, .., at most 900");
        for (int there = 897; there <= 900; there++) {
            Run run = Edges.terms(there);
            int due = there < 900 ? there : FULL;
            checks.due("so many terms", run.countTerms(), there);
            for (int kind = 2; kind <= 5; kind++) {
                due(run, due, "build", kind, there - 1, there - 1);
            }
            due(run, due, "leak", 1);
            due(run, due, "leak", 7);
            due(run.then("leak", 7), there < 900 ? there : NONE, "atom", 7);
            due(run.then("leak", 7), there < 900 ? 1 : 0, "known", there);
        }
    }

    private void equalTermsWhenFull() {
        checks.about("equal terms are one: what is there needs no room");
        Run run = Edges.terms(900);
        int secret = run.answer("atom", 8);
        due(run, 13, "steal", 1);
        due(run, 13, "push", 1);
        due(run, secret, "leak", 8);
        due(run.then("leak", 8), 1, "known", secret);
        due(run, run.answer("atom", 0), "leak", 0);
        int kind = run.answer("term", 899, 0);
        due(run, 899, "build", kind, run.answer("term", 899, 1), run.answer("term", 899, 2));
    }

    private void fullDoesNotStopTheRest() {
        checks.about("900 terms: calls that make none go on");
        Run run = Edges.terms(900);
        due(run, 1, "put", 1, 0, 1);
        due(run, 1, "change", 1, 1);
        due(run, 1, "pull", 1);
        due(run, 1, "forge", 1, 13);
        due(run, 1, "plant", 13);
        due(run.then("plant", 13).then("pull", 1).then("deliver", 0).then("deliver", 0), 13, "device", 1, 10);
        due(run.then("push", 1).then("deliver", 0), 13, "server");
        due(run.then("put", 1, 0, 1).then("push", 1), 0, "flight");
        due(run.then("put", 1, 0, 1).then("push", 1).then("erase", 1, 0).then("push", 1), FULL, "push", 1);
    }

    /** The first password fits again and again, so the last call's answer tells whether all before went well. */
    private void lastCall() {
        checks.about("an object is used for at most 512 calls: the last one is as due");
        VaultDevices played = new VaultDevices();
        for (int i = 0; i < 255; i++) {
            checks.due("unlock(1, 0)", played.unlock(1, 0), true);
            checks.due("lock(1)", played.lock(1), true);
        }
        checks.due("the 511th call", played.unlock(1, 0), true);
        checks.due("the 512th call", played.put(1, 3, 63), 1);
        Run run = Edges.busy();
        while (run.size() < 496) {
            run = run.then("put", 1, run.size() % 4, 0).then("pull", 0).then("push", 1).then("deliver", 0);
        }
        while (run.size() < 511) {
            run = run.then("pull", 0);
        }
        checks.due("the 512th call of a longer run", run.answer("flight"), 12);
    }

    /** What later calls answer is free, but none may throw by itself. */
    private void callsBeyond() {
        checks.about("calls behind the 512th");
        VaultDevices played = Edges.busy().played();
        String[] names = {"put", "push", "steal", "build", "deliver", "pull", "change", "erase", "leak", "forge"};
        Random random = new Random(512);
        for (int i = 0; i < 20000; i++) {
            String name = names[random.nextInt(names.length)];
            int got = Calls.on(played, name, random.nextInt(3), random.nextInt(4), random.nextInt(64));
            if (got == Calls.OTHER_FAULT) {
                checks.tell(name + " as call " + i + " threw what no call may throw");
            }
        }
    }
}
