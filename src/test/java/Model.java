import java.util.ArrayList;
import java.util.Arrays;
import java.util.HashMap;
import java.util.HashSet;
import java.util.List;
import java.util.Map;
import java.util.Set;
import java.util.TreeSet;

/** The document said again in the plainest way, slow and with all of Java's library, to be compared with. */
final class Model {
    static final int NONE = -1;
    static final int FULL = -2;

    record Node(int kind, int x, int y) { }

    record Entry(int item, int device, int count, int content) implements Comparable<Entry> {
        public int compareTo(Entry o) {
            int[] a = {item, device, count, content};
            int[] b = {o.item, o.device, o.count, o.content};
            return Arrays.compare(a, b);
        }
    }

    record State(int generation, int owner, int password, List<Integer> vector, TreeSet<Entry> entries) {
        boolean knowsDot(Entry e) {
            return vector.get(e.device) >= e.count;
        }
    }

    record Message(int kind, int device, int base, int term) { }

    static final class Device {
        State state = new State(0, 0, 0, List.of(0, 0, 0), new TreeSet<>());
        List<Integer> acked = List.of(0, 0, 0);
        int base = NONE;
        boolean locked = true;
    }

    /** Makes terms, or only looks for them. */
    private interface Maker {
        int make(int kind, int x, int y);
    }

    List<Node> nodes = new ArrayList<>();
    Map<Node, Integer> numbers = new HashMap<>();
    Set<Integer> given = new HashSet<>();
    Set<Integer> knownNow = new HashSet<>();
    final List<Message> mail = new ArrayList<>();
    final Device[] devices = {new Device(), new Device(), new Device()};
    int held = NONE;

    boolean unlock(int d, int password) {
        argument(in(d, 3) && in(password, 8));
        boolean fits = devices[d].locked && devices[d].state.password == password;
        devices[d].locked &= !fits;
        return fits;
    }

    boolean lock(int d) {
        argument(in(d, 3));
        boolean was = devices[d].locked;
        devices[d].locked = true;
        return !was;
    }

    int put(int d, int item, int content) {
        argument(in(d, 3) && in(item, 4) && in(content, 64));
        open(d);
        State s = devices[d].state;
        int count = s.vector.get(d) + 1;
        TreeSet<Entry> entries = without(s.entries, item);
        entries.add(new Entry(item, d, count, content));
        if (count > 30 || entries.size() > 12) {
            return FULL;
        }
        devices[d].state = new State(s.generation, s.owner, s.password, with(s.vector, d, count), entries);
        return count;
    }

    int erase(int d, int item) {
        argument(in(d, 3) && in(item, 4));
        open(d);
        State s = devices[d].state;
        if (s.vector.get(d) == 30) {
            return FULL;
        }
        TreeSet<Entry> entries = without(s.entries, item);
        if (entries.size() == s.entries.size()) {
            return NONE;
        }
        int count = s.vector.get(d) + 1;
        devices[d].state = new State(s.generation, s.owner, s.password, with(s.vector, d, count), entries);
        return s.entries.size() - entries.size();
    }

    int get(int d, int item, int k) {
        argument(in(d, 3) && in(item, 4));
        open(d);
        List<Entry> there = new ArrayList<>(devices[d].state.entries);
        there.removeIf(e -> e.item != item);
        return k == -1 ? there.size() : in(k, there.size()) ? there.get(k).content : NONE;
    }

    int change(int d, int password) {
        argument(in(d, 3) && in(password, 8));
        open(d);
        State s = devices[d].state;
        if (s.generation == 30) {
            return FULL;
        }
        devices[d].state = new State(s.generation + 1, d, password, s.vector, s.entries);
        return s.generation + 1;
    }

    boolean pull(int d) {
        argument(in(d, 3));
        open(d);
        send(new Message(0, d, NONE, NONE));
        return true;
    }

    int push(int d) {
        argument(in(d, 3));
        open(d);
        int seal = makeAll(devices[d].state);
        if (seal != FULL) {
            send(new Message(1, d, devices[d].base, seal));
        }
        return seal;
    }

    boolean deliver(int m) {
        if (!in(m, mail.size())) {
            return false;
        }
        Message a = mail.remove(m);
        if (a.kind == 2) {
            reply(devices[a.device], a.term);
            return true;
        }
        if (a.kind == 1 && a.base == held) {
            held = a.term;
        }
        send(new Message(2, a.device, NONE, held));
        return true;
    }

    boolean drop(int m) {
        if (!in(m, mail.size())) {
            return false;
        }
        mail.remove(m);
        return true;
    }

    int message(int m, int w) {
        if (!in(m, mail.size()) || !in(w, 4)) {
            return NONE;
        }
        Message a = mail.get(m);
        return new int[] {a.kind, a.device, a.base, a.term}[w];
    }

    int flight() {
        return mail.size();
    }

    boolean forge(int d, int t) {
        if (!in(d, 3) || !known(t) || mail.size() == 12) {
            return false;
        }
        send(new Message(2, d, NONE, t));
        return true;
    }

    boolean plant(int t) {
        if (!known(t)) {
            return false;
        }
        held = t;
        return true;
    }

    int build(int kind, int x, int y) {
        if (kind < 2 || kind > 5 || !known(x) || !known(y)) {
            return NONE;
        }
        int t = add(kind, x, y);
        settle();
        return t;
    }

    int leak(int n) {
        if (!in(n, 9)) {
            return NONE;
        }
        int t = add(0, n, NONE);
        give(t);
        return t;
    }

    int steal(int d) {
        if (!in(d, 3)) {
            return NONE;
        }
        int t = makeAll(devices[d].state);
        give(t);
        return t;
    }

    boolean known(int t) {
        return knownNow.contains(t);
    }

    int term(int t, int w) {
        if (!in(t, nodes.size()) || !in(w, 3)) {
            return NONE;
        }
        Node n = nodes.get(t);
        return new int[] {n.kind, n.x, n.y}[w];
    }

    int atom(int n) {
        return look(0, n, NONE);
    }

    int device(int d, int w) {
        if (!in(d, 3) || !in(w, 11)) {
            return NONE;
        }
        Device a = devices[d];
        List<Integer> v = a.state.vector;
        return new int[] {a.locked ? 1 : 0, v.get(0), v.get(1), v.get(2), a.acked.get(0), a.acked.get(1),
            a.acked.get(2), a.state.generation, a.state.owner, a.state.entries.size(), a.base}[w];
    }

    int server() {
        return held;
    }

    /** The number of a term, NONE if it has not been made. */
    int look(int kind, int x, int y) {
        return numbers.getOrDefault(new Node(kind, x, y), NONE);
    }

    /** The state whose SEAL t is; null if t is none. */
    State stateOf(int t) {
        State s = guess(part(t, 0));
        return s != null && proper(s) && sealed(s, this::look) == t ? s : null;
    }

    private void reply(Device a, int t) {
        State b = t == NONE || a.locked ? null : stateOf(t);
        if (b == null) {
            return;
        }
        for (int i = 0; i < 3; i++) {
            if (b.vector.get(i) < a.acked.get(i)) {
                return;
            }
        }
        State both = merge(a.state, b);
        if (both.entries.size() <= 12) {
            a.acked = b.vector;
            a.base = t;
            a.state = both;
        }
    }

    private static State merge(State a, State b) {
        TreeSet<Entry> entries = new TreeSet<>();
        for (Entry e : a.entries) {
            if (b.entries.contains(e) || !b.knowsDot(e)) {
                entries.add(e);
            }
        }
        for (Entry e : b.entries) {
            if (!a.entries.contains(e) && !a.knowsDot(e)) {
                entries.add(e);
            }
        }
        List<Integer> vector = new ArrayList<>();
        for (int i = 0; i < 3; i++) {
            vector.add(Math.max(a.vector.get(i), b.vector.get(i)));
        }
        boolean keep = a.generation > b.generation || a.generation == b.generation && a.owner <= b.owner;
        State h = keep ? a : b;
        return new State(h.generation, h.owner, h.password, vector, entries);
    }

    /** Reads a term as if it were a state, without care; null if that makes no sense at all. */
    private State guess(int t) {
        List<Integer> vector = List.of(n(part(t, 3)), n(part(t, 4)), n(part(t, 5)));
        TreeSet<Entry> entries = new TreeSet<>();
        int rest = rest(t, 6);
        for (int i = 0; i < 1000 && kind(rest) == 4; i++) {
            int e = part(rest, 0);
            entries.add(new Entry(n(part(e, 0)), n(part(e, 1)), n(part(e, 2)), n(term(rest(e, 3), 2)) - 100));
            rest = rest(rest, 1);
        }
        int box = part(t, 2);
        int password = n(term(term(box, 1), 1));
        return kind(box) == 3 && kind(term(box, 1)) == 2 ? new State(n(part(t, 0)), n(part(t, 1)), password, vector, entries) : null;
    }

    private static boolean proper(State s) {
        boolean fine = in(s.generation, 31) && in(s.owner, 3) && in(s.password, 8) && s.entries.size() <= 12;
        for (int count : s.vector) {
            fine &= in(count, 31);
        }
        Set<List<Integer>> dots = new HashSet<>();
        for (Entry e : s.entries) {
            fine = fine && in(e.item, 4) && in(e.device, 3) && e.count >= 1 && in(e.content, 64) && s.knowsDot(e);
            fine &= dots.add(List.of(e.device, e.count));
        }
        return fine;
    }

    private static int sealed(State s, Maker to) {
        int state = body(s, to);
        return to.make(4, state, to.make(5, to.make(0, 9, NONE), state));
    }

    private static int body(State s, Maker to) {
        int generation = to.make(1, s.generation, NONE);
        int owner = to.make(1, s.owner, NONE);
        int key = to.make(2, to.make(0, s.password, NONE), to.make(0, 8, NONE));
        int box = to.make(3, key, to.make(0, 9, NONE));
        int v0 = to.make(1, s.vector.get(0), NONE);
        int v1 = to.make(1, s.vector.get(1), NONE);
        int v2 = to.make(1, s.vector.get(2), NONE);
        int end = to.make(4, v2, entries(new ArrayList<>(s.entries), to));
        end = to.make(4, v0, to.make(4, v1, end));
        return to.make(4, generation, to.make(4, owner, to.make(4, box, end)));
    }

    private static int entries(List<Entry> left, Maker to) {
        if (left.isEmpty()) {
            return to.make(1, 0, NONE);
        }
        Entry e = left.get(0);
        int item = to.make(1, e.item, NONE);
        int device = to.make(1, e.device, NONE);
        int count = to.make(1, e.count, NONE);
        int box = to.make(3, to.make(0, 10 + e.item, NONE), to.make(0, 100 + e.content, NONE));
        int entry = to.make(4, item, to.make(4, device, to.make(4, count, box)));
        return to.make(4, entry, entries(left.subList(1, left.size()), to));
    }

    private int makeAll(State s) {
        List<Node> nodesBefore = new ArrayList<>(nodes);
        Map<Node, Integer> numbersBefore = new HashMap<>(numbers);
        int seal = sealed(s, this::add);
        if (seal == FULL) {
            nodes = nodesBefore;
            numbers = numbersBefore;
        }
        return seal;
    }

    private int add(int kind, int x, int y) {
        if (x == FULL || y == FULL) {
            return FULL;
        }
        int t = look(kind, x, y);
        if (t != NONE) {
            return t;
        }
        if (nodes.size() == 900) {
            return FULL;
        }
        nodes.add(new Node(kind, x, y));
        numbers.put(new Node(kind, x, y), nodes.size() - 1);
        return nodes.size() - 1;
    }

    private void send(Message a) {
        give(a.base);
        give(a.term);
        if (mail.size() < 12) {
            mail.add(a);
        }
    }

    private void give(int t) {
        if (t >= 0) {
            given.add(t);
            settle();
        }
    }

    private void settle() {
        knownNow.addAll(given);
        int before = -1;
        while (before != knownNow.size()) {
            before = knownNow.size();
            for (int t = 0; t < nodes.size(); t++) {
                Node n = nodes.get(t);
                boolean both = n.kind >= 2 && known(n.x) && known(n.y);
                if (n.kind == 1 || both) {
                    knownNow.add(t);
                }
                if (n.kind == 4 && known(t)) {
                    knownNow.add(n.x);
                    knownNow.add(n.y);
                }
                if (n.kind == 3 && known(t) && known(n.x)) {
                    knownNow.add(n.y);
                }
            }
        }
    }

    private int rest(int t, int parts) {
        int rest = t;
        for (int i = 0; i < parts; i++) {
            rest = kind(rest) == 4 ? term(rest, 2) : NONE;
        }
        return rest;
    }

    private int part(int t, int index) {
        int rest = rest(t, index);
        return kind(rest) == 4 ? term(rest, 1) : NONE;
    }

    private int kind(int t) {
        return term(t, 0);
    }

    private int n(int t) {
        return kind(t) == 0 || kind(t) == 1 ? term(t, 1) : NONE;
    }

    private static TreeSet<Entry> without(TreeSet<Entry> entries, int item) {
        TreeSet<Entry> left = new TreeSet<>(entries);
        left.removeIf(e -> e.item == item);
        return left;
    }

    private static List<Integer> with(List<Integer> vector, int d, int count) {
        List<Integer> changed = new ArrayList<>(vector);
        changed.set(d, count);
        return changed;
    }

    private static boolean in(int n, int bound) {
        return n >= 0 && n < bound;
    }

    private static void argument(boolean fine) {
        if (!fine) {
            throw new IllegalArgumentException();
        }
    }

    private void open(int d) {
        if (devices[d].locked) {
            throw new IllegalStateException();
        }
    }
}
