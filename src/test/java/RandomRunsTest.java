import java.util.ArrayList;
import java.util.List;
import java.util.Random;
import java.util.TreeMap;

/** Long runs of calls by fixed seeds, each answer compared with the model's; some of them forge whole states. */
public final class RandomRunsTest {
    private static final int RUNS = 600;
    private static final TreeMap<String, Integer> SEEN = new TreeMap<>();

    private final Random random;
    private final Twin twin;
    private final boolean attacks;
    private final boolean fills;

    private RandomRunsTest(long seed, Checks checks) {
        random = new Random(seed);
        twin = new Twin(checks, true);
        attacks = seed % 3 == 0;
        fills = seed % 3 == 1;
    }

    public static void main(String[] args) {
        Checks checks = new Checks();
        for (long seed = 0; seed < RUNS; seed++) {
            checks.about("seed " + seed);
            new RandomRunsTest(seed, checks).run();
        }
        mustHaveSeen(checks, "push FULL", "build FULL", "steal FULL", "put FULL", "erase FULL", "change FULL",
                "leak FULL", "forged taken", "forged refused", "reply too old", "merge too large");
        System.out.println(SEEN);
        checks.end();
    }

    /** Keeps the runs honest: an edge that no seed comes to is not tested by them. */
    private static void mustHaveSeen(Checks checks, String... edges) {
        for (String edge : edges) {
            if (!SEEN.containsKey(edge)) {
                checks.tell("no run came to this edge: " + edge);
            }
        }
    }

    private static void saw(String edge) {
        SEEN.merge(edge, 1, Integer::sum);
    }

    private void run() {
        for (int d = 0; d < 3; d++) {
            if (random.nextInt(8) != 0) {
                twin.call("unlock", d, 0);
            }
        }
        while (twin.hasCallsLeft()) {
            int dice = random.nextInt(100);
            if (fills && random.nextInt(3) != 0) {
                fill();
            } else if (dice < 38) {
                edit();
            } else if (dice < 68) {
                exchange();
            } else if (dice < 84) {
                look();
            } else if (attacks && dice < 92) {
                forgeState();
            } else if (dice < 96) {
                meddle();
            } else {
                wrongInput();
            }
        }
    }

    private void note(String name, int answer) {
        if (answer == Model.FULL) {
            saw(name + " FULL");
        }
    }

    /** An edit and a seal of what is there then: after some of these there is no room for terms. */
    private void fill() {
        int d = random.nextInt(3);
        if (random.nextInt(3) == 0) {
            note("change", twin.call("change", d, random.nextInt(8)));
        } else {
            note("put", twin.call("put", d, random.nextInt(4), random.nextInt(64)));
        }
        String how = random.nextBoolean() ? "push" : "steal";
        note(how, twin.call(how, d));
        if (random.nextInt(4) == 0 && twin.model.flight() > 0) {
            deliver(random.nextInt(twin.model.flight()));
        }
    }

    private void edit() {
        int d = random.nextInt(3);
        int dice = random.nextInt(20);
        if (dice < 12) {
            note("put", twin.call("put", d, random.nextInt(4), random.nextInt(fills ? 64 : 6)));
        } else if (dice < 15) {
            note("erase", twin.call("erase", d, random.nextInt(4)));
        } else if (dice < 17) {
            note("change", twin.call("change", d, random.nextInt(8)));
        } else if (dice < 18) {
            twin.call("lock", d);
        } else {
            boolean right = random.nextInt(4) != 0;
            twin.call("unlock", d, right ? twin.model.devices[d].state.password() : random.nextInt(8));
        }
    }

    private void exchange() {
        int d = random.nextInt(3);
        int dice = random.nextInt(20);
        if (dice < 5) {
            note("push", twin.call("push", d));
        } else if (dice < 8) {
            twin.call("pull", d);
        } else if (dice < 19) {
            int under = twin.model.flight();
            if (under > 0) {
                deliver(random.nextInt(3) == 0 ? random.nextInt(under) : 0);
            }
        } else {
            twin.call("drop", random.nextInt(5));
        }
    }

    private void deliver(int m) {
        int kind = twin.model.message(m, 0);
        int d = twin.model.message(m, 1);
        int t = twin.model.message(m, 3);
        Model.State sealed = kind == 2 ? twin.model.stateOf(t) : null;
        boolean open = kind == 2 && !twin.model.devices[d].locked;
        List<Integer> acked = open ? twin.model.devices[d].acked : null;
        twin.call("deliver", m);
        if (open && sealed != null && twin.model.devices[d].base != t) {
            boolean old = false;
            for (int i = 0; i < 3; i++) {
                old |= sealed.vector().get(i) < acked.get(i);
            }
            saw(old ? "reply too old" : "merge too large");
        }
    }

    private void look() {
        int dice = random.nextInt(12);
        if (dice < 4) {
            twin.call("device", random.nextInt(3), random.nextInt(11));
        } else if (dice < 6) {
            twin.call("get", random.nextInt(3), random.nextInt(4), random.nextInt(5) - 1);
        } else if (dice < 7) {
            twin.call("message", random.nextInt(13), random.nextInt(4));
        } else if (dice < 8) {
            twin.call("term", anyTerm(), random.nextInt(3));
        } else if (dice < 10) {
            twin.call("known", anyTerm());
        } else if (dice < 11) {
            twin.call("atom", random.nextBoolean() ? random.nextInt(14) : 100 + random.nextInt(64));
        } else {
            twin.call(random.nextBoolean() ? "server" : "flight");
        }
    }

    private void meddle() {
        int dice = random.nextInt(12);
        if (dice < 1) {
            note("leak", twin.call("leak", random.nextInt(9)));
        } else if (dice < 3) {
            note("steal", twin.call("steal", random.nextInt(3)));
        } else if (dice < 7) {
            note("build", twin.call("build", 2 + random.nextInt(4), anyTerm(), anyTerm()));
        } else if (dice < 10) {
            twin.call("forge", random.nextInt(3), random.nextBoolean() ? anySeal() : anyTerm());
        } else {
            twin.call("plant", random.nextBoolean() ? anySeal() : anyTerm());
        }
    }

    private void wrongInput() {
        int bad = random.nextBoolean() ? -1 - random.nextInt(3) : 3 + random.nextInt(900);
        int worse = random.nextBoolean() ? Integer.MIN_VALUE : Integer.MAX_VALUE;
        int d = random.nextInt(5) - 1;
        switch (random.nextInt(16)) {
            case 0: twin.call("unlock", d, random.nextInt(10) - 1); break;
            case 1: twin.call("lock", bad); break;
            case 2: twin.call("put", d, random.nextInt(6) - 1, random.nextInt(4) == 0 ? 64 : worse); break;
            case 3: twin.call("erase", d, random.nextInt(6) - 1); break;
            case 4: twin.call("get", d, random.nextInt(6) - 1, random.nextBoolean() ? bad : worse); break;
            case 5: twin.call("change", d, random.nextInt(10) - 1); break;
            case 6: twin.call("pull", d); break;
            case 7: twin.call("push", d); break;
            case 8: twin.call("deliver", random.nextBoolean() ? twin.model.flight() : worse); break;
            case 9: twin.call("drop", random.nextBoolean() ? twin.model.flight() : worse); break;
            case 10: twin.call("message", random.nextInt(4) - 1, random.nextInt(6) - 1); break;
            case 11: twin.call("term", random.nextBoolean() ? twin.model.nodes.size() : worse, random.nextInt(5) - 1); break;
            case 12: twin.call("device", d, random.nextInt(14) - 1); break;
            case 13: twin.call("build", random.nextInt(8) - 1, anyTerm(), random.nextBoolean() ? twin.model.nodes.size() : worse); break;
            case 14: twin.call("leak", random.nextBoolean() ? 9 : -1); break;
            default: twin.call("atom", random.nextBoolean() ? bad : worse); break;
        }
    }

    /** Builds a state of terms that are KNOWN, often with a fault, seals it and sends it to a device. */
    private void forgeState() {
        if (!twin.model.known(twin.model.atom(9))) {
            twin.call("push", random.nextInt(3));
            twin.call("leak", 8);
            twin.call("leak", random.nextBoolean() ? 0 : random.nextInt(8));
        }
        Integer state = buildState();
        if (state == null) {
            return;
        }
        int keyTerm = random.nextInt(12) == 0 ? anyTerm() : twin.model.atom(9);
        int mark = twin.call("build", random.nextInt(15) == 0 ? 3 : 5, keyTerm, random.nextInt(15) == 0 ? anyTerm() : state);
        int seal = twin.call("build", 4, state, mark);
        int d = random.nextInt(3);
        int m = twin.model.flight();
        if (seal >= 0 && twin.call("forge", d, seal) == 1) {
            boolean open = !twin.model.devices[d].locked;
            deliver(m);
            if (open) {
                saw(twin.call("device", d, 10) == seal ? "forged taken" : "forged refused");
            }
            twin.call("device", d, 9);
            twin.call("get", d, random.nextInt(4), random.nextInt(4) - 1);
        }
    }

    private Integer buildState() {
        List<Integer> boxes = new ArrayList<>();
        List<Integer> headers = new ArrayList<>();
        for (int t = 0; t < twin.model.nodes.size(); t++) {
            if (twin.model.term(t, 0) == 3 && twin.model.known(t)) {
                boolean content = twin.model.term(twin.model.term(t, 1), 0) == 0;
                (content ? boxes : headers).add(t);
            }
        }
        if (headers.isEmpty()) {
            return null;
        }
        int[] vector = {someCount(), someCount(), someCount()};
        Integer list = buildEntries(boxes, vector);
        if (list == null) {
            return null;
        }
        int[] parts = {number(someCount()), number(random.nextInt(random.nextInt(9) == 0 ? 5 : 3)),
            random.nextInt(20) == 0 ? anyTerm() : headers.get(random.nextInt(headers.size())),
            number(vector[0]), number(vector[1]), number(vector[2])};
        return buildList(parts, list);
    }

    private Integer buildEntries(List<Integer> boxes, int[] vector) {
        boolean faulty = random.nextInt(3) == 0;
        boolean large = random.nextInt(4) == 0;
        List<int[]> entries = new ArrayList<>();
        int want = boxes.isEmpty() ? 0 : large ? 11 + random.nextInt(4) : random.nextInt(6);
        for (int i = 0; i < want; i++) {
            int box = boxes.get(random.nextInt(boxes.size()));
            int item = twin.model.term(twin.model.term(box, 1), 1) - 10;
            int device = random.nextInt(3);
            int count = 1 + random.nextInt(Math.max(1, vector[device]));
            if (faulty && random.nextInt(4) == 0) {
                item = random.nextInt(5);
            }
            if (faulty && random.nextInt(4) == 0) {
                count = random.nextInt(vector[device] + 2);
            }
            int[] entry = {item, device, count, box};
            boolean twice = entries.stream().anyMatch(e -> e[1] == entry[1] && e[2] == entry[2]);
            if (!twice || faulty && random.nextInt(4) == 0) {
                entries.add(entry);
            }
        }
        if (!faulty || random.nextBoolean()) {
            entries.sort((a, b) -> java.util.Arrays.compare(a, 0, 3, b, 0, 3));
        }
        Integer list = number(faulty && random.nextInt(9) == 0 ? 1 : 0);
        for (int i = entries.size() - 1; i >= 0 && list != null; i--) {
            int[] e = entries.get(i);
            Integer entry = buildList(new int[] {number(e[0]), number(e[1]), number(e[2])}, e[3]);
            list = entry == null ? null : buildList(new int[] {entry}, list);
        }
        return list;
    }

    private Integer buildList(int[] parts, int end) {
        int list = end;
        for (int i = parts.length - 1; i >= 0; i--) {
            list = twin.call("build", 4, parts[i], list);
            note("build", list);
            if (list < 0) {
                return null;
            }
        }
        return list;
    }

    /** The NUMBER's term; NONE if nobody has made it yet, as nobody can give it then. */
    private int number(int n) {
        return twin.model.look(1, n, Model.NONE);
    }

    private int someCount() {
        List<Integer> there = new ArrayList<>();
        for (int n = 0; n <= 30; n++) {
            if (number(n) != Model.NONE) {
                there.add(n);
            }
        }
        int top = there.isEmpty() ? 0 : there.get(there.size() - 1 - random.nextInt(Math.min(2, there.size())));
        return there.isEmpty() ? 0 : random.nextInt(3) == 0 ? top : there.get(random.nextInt(there.size()));
    }

    private int anyTerm() {
        return random.nextInt(twin.model.nodes.size() + 1);
    }

    private int anySeal() {
        List<Integer> there = new ArrayList<>();
        for (int t = 0; t < twin.model.nodes.size(); t++) {
            if (twin.model.term(t, 0) == 4 && twin.model.term(twin.model.term(t, 2), 0) == 5) {
                there.add(t);
            }
        }
        return there.isEmpty() ? 0 : there.get(random.nextInt(there.size()));
    }
}
