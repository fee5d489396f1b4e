import java.util.Arrays;

/** Three devices that keep a vault in step through a server that nobody trusts; ../shared/DOC.md has the promises. */
public final class VaultDevices {
    public static final int NONE = -1;
    public static final int FULL = -2;

    private static final int DEVICES = 3;
    private static final int ITEMS = 4;
    private static final int CONTENTS = 64;
    private static final int PASSWORDS = 8;
    private static final int MOST_COUNT = 30;
    private static final int MOST_ENTRIES = 12;
    private static final int MOST_MESSAGES = 12;
    private static final int MOST_TERMS = 900;

    private static final int ATOM = 0;
    private static final int NUMBER = 1;
    private static final int KEY = 2;
    private static final int BOX = 3;
    private static final int PAIR = 4;
    private static final int MARK = 5;

    private static final int SECRET = 8;
    private static final int VAULT = 9;
    private static final int FIRST_ITEM_KEY = 10;
    private static final int FIRST_CONTENT = 100;

    private static final int PULL = 0;
    private static final int PUSH = 1;
    private static final int REPLY = 2;

    private final Terms terms;
    private final Seals seals;
    private final Mail mail;
    private final Device[] devices;
    private final State arrived;
    private int held;

    public VaultDevices() {
        terms = new Terms();
        seals = new Seals();
        mail = new Mail();
        devices = new Device[DEVICES];
        for (int d = 0; d < DEVICES; d++) {
            devices[d] = new Device();
        }
        arrived = new State();
        held = NONE;
    }

    public boolean unlock(int d, int password) throws IllegalArgumentException {
        require(isBelow(d, DEVICES) && isBelow(password, PASSWORDS));
        Device device = devices[d];
        if (!device.locked || device.state.password != password) {
            return false;
        }
        device.locked = false;
        return true;
    }

    public boolean lock(int d) throws IllegalArgumentException {
        require(isBelow(d, DEVICES));
        if (devices[d].locked) {
            return false;
        }
        devices[d].locked = true;
        return true;
    }

    public int put(int d, int item, int content) throws IllegalArgumentException, IllegalStateException {
        require(isBelow(d, DEVICES) && isBelow(item, ITEMS) && isBelow(content, CONTENTS));
        requireOpen(devices[d]);
        State state = devices[d].state;
        if (state.vector[d] >= MOST_COUNT || state.size - state.countOf(item) >= MOST_ENTRIES) {
            return FULL;
        }
        state.removeAll(item);
        state.vector[d]++;
        state.insert(Entry.pack(item, d, state.vector[d], content));
        return state.vector[d];
    }

    public int erase(int d, int item) throws IllegalArgumentException, IllegalStateException {
        require(isBelow(d, DEVICES) && isBelow(item, ITEMS));
        requireOpen(devices[d]);
        State state = devices[d].state;
        if (state.vector[d] >= MOST_COUNT) {
            return FULL;
        }
        int gone = state.countOf(item);
        if (gone == 0) {
            return NONE;
        }
        state.removeAll(item);
        state.vector[d]++;
        return gone;
    }

    public int get(int d, int item, int k) throws IllegalArgumentException, IllegalStateException {
        require(isBelow(d, DEVICES) && isBelow(item, ITEMS));
        requireOpen(devices[d]);
        State state = devices[d].state;
        return k == -1 ? state.countOf(item) : state.contentAt(item, k);
    }

    public int change(int d, int password) throws IllegalArgumentException, IllegalStateException {
        require(isBelow(d, DEVICES) && isBelow(password, PASSWORDS));
        requireOpen(devices[d]);
        State state = devices[d].state;
        if (state.generation >= MOST_COUNT) {
            return FULL;
        }
        state.takeHeader(state.generation + 1, d, password);
        return state.generation;
    }

    public boolean pull(int d) throws IllegalArgumentException, IllegalStateException {
        require(isBelow(d, DEVICES));
        requireOpen(devices[d]);
        mail.send(PULL, d, NONE, NONE);
        return true;
    }

    public int push(int d) throws IllegalArgumentException, IllegalStateException {
        require(isBelow(d, DEVICES));
        requireOpen(devices[d]);
        int seal = seals.write(terms, devices[d].state);
        if (seal == FULL) {
            return FULL;
        }
        terms.reveal(devices[d].base);
        terms.reveal(seal);
        mail.send(PUSH, d, devices[d].base, seal);
        return seal;
    }

    public boolean deliver(int m) {
        if (!isBelow(m, mail.size)) {
            return false;
        }
        int kind = mail.kinds[m];
        int d = mail.addressees[m];
        int base = mail.bases[m];
        int t = mail.contents[m];
        mail.remove(m);
        if (kind == REPLY) {
            takeReply(d, t);
            return true;
        }
        if (kind == PUSH && base == held) {
            held = t;
        }
        sendHeld(d);
        return true;
    }

    public boolean drop(int m) {
        if (!isBelow(m, mail.size)) {
            return false;
        }
        mail.remove(m);
        return true;
    }

    public int message(int m, int w) {
        if (!isBelow(m, mail.size)) {
            return NONE;
        }
        switch (w) {
            case 0:
                return mail.kinds[m];
            case 1:
                return mail.addressees[m];
            case 2:
                return mail.bases[m];
            case 3:
                return mail.contents[m];
            default:
                return NONE;
        }
    }

    public int flight() {
        return mail.size;
    }

    public boolean forge(int d, int t) {
        if (!isBelow(d, DEVICES) || !terms.isKnown(t) || mail.size >= MOST_MESSAGES) {
            return false;
        }
        mail.send(REPLY, d, NONE, t);
        return true;
    }

    public boolean plant(int t) {
        if (!terms.isKnown(t)) {
            return false;
        }
        held = t;
        return true;
    }

    public int build(int kind, int x, int y) {
        if (kind < KEY || kind > MARK || !terms.isKnown(x) || !terms.isKnown(y)) {
            return NONE;
        }
        int made = terms.make(kind, x, y);
        terms.reveal(made);
        return made;
    }

    public int leak(int n) {
        if (n < 0 || n > SECRET) {
            return NONE;
        }
        int made = terms.make(ATOM, n, NONE);
        terms.reveal(made);
        return made;
    }

    public int steal(int d) {
        if (!isBelow(d, DEVICES)) {
            return NONE;
        }
        int disk = seals.write(terms, devices[d].state);
        terms.reveal(disk);
        return disk;
    }

    public boolean known(int t) {
        return terms.isKnown(t);
    }

    public int term(int t, int w) {
        switch (w) {
            case 0:
                return terms.kindOf(t);
            case 1:
                return terms.xOf(t);
            case 2:
                return terms.yOf(t);
            default:
                return NONE;
        }
    }

    public int atom(int n) {
        return terms.find(ATOM, n, NONE);
    }

    public int device(int d, int w) {
        if (!isBelow(d, DEVICES)) {
            return NONE;
        }
        Device device = devices[d];
        switch (w) {
            case 0:
                return device.locked ? 1 : 0;
            case 1:
            case 2:
            case 3:
                return device.state.vector[w - 1];
            case 4:
            case 5:
            case 6:
                return device.acked[w - 4];
            case 7:
                return device.state.generation;
            case 8:
                return device.state.owner;
            case 9:
                return device.state.size;
            case 10:
                return device.base;
            default:
                return NONE;
        }
    }

    public int server() {
        return held;
    }

    private void sendHeld(int d) {
        terms.reveal(held);
        mail.send(REPLY, d, NONE, held);
    }

    private void takeReply(int d, int t) {
        Device device = devices[d];
        if (device.locked || !seals.read(terms, t, arrived) || !arrived.isAbove(device.acked)) {
            return;
        }
        // The merge goes first: one that cannot happen must leave ACKED and BASE as they are.
        if (!device.state.merge(arrived)) {
            return;
        }
        System.arraycopy(arrived.vector, 0, device.acked, 0, DEVICES);
        device.base = t;
    }

    private static boolean isBelow(int n, int bound) {
        return n >= 0 && n < bound;
    }

    private static void require(boolean fine) {
        if (!fine) {
            throw new IllegalArgumentException("no such device, password, item or content");
        }
    }

    private static void requireOpen(Device device) {
        if (device.locked) {
            throw new IllegalStateException("the device is locked");
        }
    }

    private static final class Device {
        private final State state = new State();
        private final int[] acked = new int[DEVICES];
        private int base = NONE;
        private boolean locked = true;
    }

    /** An entry is one int, packed so that the order of the ints is the order of the entries. */
    private static final class Entry {
        private static final int CONTENT_BITS = 6;
        private static final int COUNT_BITS = 5;
        private static final int DEVICE_BITS = 2;

        static int pack(int item, int device, int count, int content) {
            int place = (((item << DEVICE_BITS) | device) << COUNT_BITS) | count;
            return (place << CONTENT_BITS) | content;
        }

        static int itemOf(int entry) {
            return entry >> (CONTENT_BITS + COUNT_BITS + DEVICE_BITS);
        }

        static int deviceOf(int entry) {
            return (entry >> (CONTENT_BITS + COUNT_BITS)) & ((1 << DEVICE_BITS) - 1);
        }

        static int countOf(int entry) {
            return (entry >> CONTENT_BITS) & ((1 << COUNT_BITS) - 1);
        }

        static int contentOf(int entry) {
            return entry & ((1 << CONTENT_BITS) - 1);
        }

        static int dotOf(int entry) {
            return (entry >> CONTENT_BITS) & ((1 << (COUNT_BITS + DEVICE_BITS)) - 1);
        }
    }

    private static final class State {
        private int generation;
        private int owner;
        private int password;
        private final int[] vector = new int[DEVICES];
        private final int[] entries = new int[MOST_ENTRIES];
        private int size;
        private final int[] merged = new int[2 * MOST_ENTRIES];

        void takeHeader(int newGeneration, int newOwner, int newPassword) {
            generation = newGeneration;
            owner = newOwner;
            password = newPassword;
        }

        int countOf(int item) {
            int count = 0;
            for (int i = 0; i < size; i++) {
                if (Entry.itemOf(entries[i]) == item) {
                    count++;
                }
            }
            return count;
        }

        int contentAt(int item, int k) {
            int before = 0;
            for (int i = 0; i < size; i++) {
                if (Entry.itemOf(entries[i]) == item) {
                    if (before == k) {
                        return Entry.contentOf(entries[i]);
                    }
                    before++;
                }
            }
            return NONE;
        }

        void removeAll(int item) {
            int left = 0;
            for (int i = 0; i < size; i++) {
                if (Entry.itemOf(entries[i]) != item) {
                    entries[left] = entries[i];
                    left++;
                }
            }
            size = left;
        }

        void insert(int entry) {
            if (size < MOST_ENTRIES) {
                insertInOrder(entries, size, entry);
                size++;
            }
        }

        boolean isAbove(int[] other) {
            for (int d = 0; d < DEVICES; d++) {
                if (vector[d] < other[d]) {
                    return false;
                }
            }
            return true;
        }

        boolean knowsDotOf(int entry) {
            int d = Entry.deviceOf(entry);
            return isBelow(d, DEVICES) && vector[d] >= Entry.countOf(entry);
        }

        boolean has(int entry) {
            for (int i = 0; i < size; i++) {
                if (entries[i] == entry) {
                    return true;
                }
            }
            return false;
        }

        /** Takes over what the other state has; false, and nothing done, if the entries would be too many. */
        boolean merge(State other) {
            int count = 0;
            for (int i = 0; i < size; i++) {
                if (other.has(entries[i]) || !other.knowsDotOf(entries[i])) {
                    insertInOrder(merged, count, entries[i]);
                    count++;
                }
            }
            for (int i = 0; i < other.size; i++) {
                // A state knows the dots of all that it has, so there is no need to look for the entry itself.
                if (!knowsDotOf(other.entries[i])) {
                    insertInOrder(merged, count, other.entries[i]);
                    count++;
                }
            }
            if (count > MOST_ENTRIES) {
                return false;
            }
            System.arraycopy(merged, 0, entries, 0, count);
            size = count;
            mergeVector(other);
            mergeHeader(other);
            return true;
        }

        private void mergeVector(State other) {
            for (int d = 0; d < DEVICES; d++) {
                vector[d] = Math.max(vector[d], other.vector[d]);
            }
        }

        private void mergeHeader(State other) {
            boolean newer = other.generation > generation;
            if (newer || (other.generation == generation && other.owner < owner)) {
                takeHeader(other.generation, other.owner, other.password);
            }
        }

        /** Whether the entry may stand behind those that are here, as the last one so far. */
        boolean mayFollow(int entry) {
            if (Entry.countOf(entry) < 1 || !knowsDotOf(entry) || size >= MOST_ENTRIES) {
                return false;
            }
            for (int i = 0; i < size; i++) {
                if (entries[i] > entry || Entry.dotOf(entries[i]) == Entry.dotOf(entry)) {
                    return false;
                }
            }
            return true;
        }

        private static void insertInOrder(int[] row, int length, int entry) {
            int place = length;
            while (place > 0 && row[place - 1] > entry) {
                row[place] = row[place - 1];
                place--;
            }
            row[place] = entry;
        }
    }

    /** The messages under way, in the order of their numbers. */
    private static final class Mail {
        private final int[] kinds = new int[MOST_MESSAGES];
        private final int[] addressees = new int[MOST_MESSAGES];
        private final int[] bases = new int[MOST_MESSAGES];
        private final int[] contents = new int[MOST_MESSAGES];
        private int size;

        void send(int kind, int device, int base, int content) {
            if (size >= MOST_MESSAGES) {
                return;
            }
            kinds[size] = kind;
            addressees[size] = device;
            bases[size] = base;
            contents[size] = content;
            size++;
        }

        void remove(int m) {
            size--;
            for (int i = m; i < size; i++) {
                kinds[i] = kinds[i + 1];
                addressees[i] = addressees[i + 1];
                bases[i] = bases[i + 1];
                contents[i] = contents[i + 1];
            }
        }
    }

    /** All terms, and which of them are KNOWN. An ATOM or NUMBER n has n as its x and NONE as its y. */
    private static final class Terms {
        private final int[] kinds = new int[MOST_TERMS];
        private final int[] xs = new int[MOST_TERMS];
        private final int[] ys = new int[MOST_TERMS];
        private final boolean[] open = new boolean[MOST_TERMS];
        // Terms with the same y are chained from the newest to the oldest, so that equal ones are found soon.
        private final int[] newest = new int[MOST_TERMS + 1];
        private final int[] older = new int[MOST_TERMS];
        private int size;

        Terms() {
            Arrays.fill(newest, NONE);
        }

        // The bounds are written out here and in tailOf, for whoever reads a state calls these deep inside.
        int kindOf(int t) {
            return t >= 0 && t < size ? kinds[t] : NONE;
        }

        int xOf(int t) {
            return isBelow(t, size) ? xs[t] : NONE;
        }

        int yOf(int t) {
            return isBelow(t, size) ? ys[t] : NONE;
        }

        boolean isKnown(int t) {
            return isBelow(t, size) && open[t];
        }

        /** The n of a term of this kind, ATOM or NUMBER; NONE if it is of another kind. */
        int valueOf(int t, int kind) {
            return kindOf(t) == kind ? xs[t] : NONE;
        }

        /** What is left of a LIST behind its first so many parts; NONE if it has not so many. */
        int tailOf(int list, int parts) {
            int rest = list;
            for (int i = 0; i < parts; i++) {
                rest = rest >= 0 && rest < size && kinds[rest] == PAIR ? ys[rest] : NONE;
            }
            return rest;
        }

        int partOf(int list, int index) {
            int rest = tailOf(list, index);
            return kindOf(rest) == PAIR ? xs[rest] : NONE;
        }

        int find(int kind, int x, int y) {
            int t = newest[y + 1];
            for (int step = 0; step < size && t != NONE; step++) {
                if (kinds[t] == kind && xs[t] == x) {
                    return t;
                }
                t = older[t];
            }
            return NONE;
        }

        /** The number of the term, new or not; FULL if there is no room for it or was none for its x or y. */
        int make(int kind, int x, int y) {
            if (x == FULL || y == FULL) {
                return FULL;
            }
            int there = find(kind, x, y);
            if (there != NONE) {
                return there;
            }
            if (size >= MOST_TERMS) {
                return FULL;
            }
            int t = size;
            kinds[t] = kind;
            xs[t] = x;
            ys[t] = y;
            open[t] = kind == NUMBER;
            older[t] = newest[y + 1];
            newest[y + 1] = t;
            size++;
            return t;
        }

        int makeList(int[] parts, int count, int end) {
            int list = end;
            for (int i = count - 1; i >= 0; i--) {
                list = make(PAIR, parts[i], list);
            }
            return list;
        }

        /** Takes back the newest terms, so that only so many are left. */
        void cutBack(int left) {
            for (int t = size - 1; t >= left; t--) {
                newest[ys[t] + 1] = older[t];
            }
            size = left;
        }

        /** Whoever makes terms must reveal the whole at once, for what is KNOWN of the parts is worked out here. */
        void reveal(int t) {
            if (isBelow(t, size) && !open[t]) {
                open[t] = true;
                spread();
            }
        }

        /** Parts have lesser numbers than the whole: downwards all comes apart, upwards all comes together. */
        private void spread() {
            boolean more = true;
            for (int round = 0; round <= MOST_TERMS && more; round++) {
                more = false;
                for (int t = size - 1; t >= 0; t--) {
                    if (open[t] && kinds[t] >= KEY && takeApart(t)) {
                        more = true;
                    }
                }
                for (int t = 0; t < size; t++) {
                    if (!open[t] && kinds[t] >= KEY && open[xs[t]] && open[ys[t]]) {
                        open[t] = true;
                        more = true;
                    }
                }
            }
        }

        private boolean takeApart(int t) {
            int x = xs[t];
            int y = ys[t];
            boolean news = false;
            if (kinds[t] == PAIR && !open[x]) {
                open[x] = true;
                news = true;
            }
            boolean yieldsY = kinds[t] == PAIR || (kinds[t] == BOX && open[x]);
            if (yieldsY && !open[y]) {
                open[y] = true;
                news = true;
            }
            return news;
        }
    }

    /** Writes states as sealed terms and reads them back; its rows are kept so that no call makes new ones. */
    private static final class Seals {
        private static final int HEADER_PARTS = 3;
        private static final int DOT_PARTS = 3;

        private final int[] stateRow = new int[HEADER_PARTS + DEVICES];
        private final int[] entriesRow = new int[MOST_ENTRIES];
        private final int[] entryRow = new int[DOT_PARTS];

        /** The number of the sealed state; FULL, and no term made, if there is no room for all of it. */
        int write(Terms terms, State state) {
            int before = terms.size;
            writeHeader(terms, state);
            for (int d = 0; d < DEVICES; d++) {
                stateRow[HEADER_PARTS + d] = terms.make(NUMBER, state.vector[d], NONE);
            }
            int body = terms.makeList(stateRow, stateRow.length, writeEntries(terms, state));
            int mark = terms.make(MARK, terms.make(ATOM, VAULT, NONE), body);
            int seal = terms.make(PAIR, body, mark);
            if (seal == FULL) {
                terms.cutBack(before);
            }
            return seal;
        }

        private void writeHeader(Terms terms, State state) {
            stateRow[0] = terms.make(NUMBER, state.generation, NONE);
            stateRow[1] = terms.make(NUMBER, state.owner, NONE);
            int password = terms.make(ATOM, state.password, NONE);
            int secret = terms.make(ATOM, SECRET, NONE);
            int key = terms.make(KEY, password, secret);
            stateRow[2] = terms.make(BOX, key, terms.make(ATOM, VAULT, NONE));
        }

        private int writeEntries(Terms terms, State state) {
            for (int i = 0; i < state.size; i++) {
                entriesRow[i] = writeEntry(terms, state.entries[i]);
            }
            int end = terms.make(NUMBER, 0, NONE);
            return terms.makeList(entriesRow, state.size, end);
        }

        private int writeEntry(Terms terms, int entry) {
            entryRow[0] = terms.make(NUMBER, Entry.itemOf(entry), NONE);
            entryRow[1] = terms.make(NUMBER, Entry.deviceOf(entry), NONE);
            entryRow[2] = terms.make(NUMBER, Entry.countOf(entry), NONE);
            int key = terms.make(ATOM, FIRST_ITEM_KEY + Entry.itemOf(entry), NONE);
            int content = terms.make(ATOM, FIRST_CONTENT + Entry.contentOf(entry), NONE);
            return terms.makeList(entryRow, entryRow.length, terms.make(BOX, key, content));
        }

        /** Whether t is a SEAL; if so, its state is in the given one then (else that is of no use any more). */
        boolean read(Terms terms, int t, State into) {
            int body = terms.partOf(t, 0);
            int mark = terms.tailOf(t, 1);
            if (terms.kindOf(mark) != MARK || terms.yOf(mark) != body) {
                return false;
            }
            return terms.valueOf(terms.xOf(mark), ATOM) == VAULT
                    && readHeader(terms, body, into)
                    && readVector(terms, body, into)
                    && readEntries(terms, terms.tailOf(body, stateRow.length), into);
        }

        private static boolean readHeader(Terms terms, int body, State into) {
            int generation = terms.valueOf(terms.partOf(body, 0), NUMBER);
            int owner = terms.valueOf(terms.partOf(body, 1), NUMBER);
            int password = readHeaderBox(terms, terms.partOf(body, 2));
            into.takeHeader(generation, owner, password);
            return isBelow(generation, MOST_COUNT + 1) && isBelow(owner, DEVICES) && isBelow(password, PASSWORDS);
        }

        private static int readHeaderBox(Terms terms, int box) {
            int key = terms.xOf(box);
            if (terms.kindOf(box) != BOX || terms.kindOf(key) != KEY) {
                return NONE;
            }
            boolean proper = terms.valueOf(terms.yOf(box), ATOM) == VAULT
                    && terms.valueOf(terms.yOf(key), ATOM) == SECRET;
            return proper ? terms.valueOf(terms.xOf(key), ATOM) : NONE;
        }

        private static boolean readVector(Terms terms, int body, State into) {
            for (int d = 0; d < DEVICES; d++) {
                int count = terms.valueOf(terms.partOf(body, HEADER_PARTS + d), NUMBER);
                if (!isBelow(count, MOST_COUNT + 1)) {
                    return false;
                }
                into.vector[d] = count;
            }
            return true;
        }

        private static boolean readEntries(Terms terms, int list, State into) {
            into.size = 0;
            int rest = list;
            for (int i = 0; i < MOST_ENTRIES; i++) {
                if (terms.valueOf(rest, NUMBER) == 0) {
                    return true;
                }
                int entry = readEntry(terms, terms.partOf(rest, 0));
                if (entry == NONE || !into.mayFollow(entry)) {
                    return false;
                }
                into.insert(entry);
                rest = terms.tailOf(rest, 1);
            }
            return terms.valueOf(rest, NUMBER) == 0;
        }

        private static int readEntry(Terms terms, int t) {
            int item = terms.valueOf(terms.partOf(t, 0), NUMBER);
            int device = terms.valueOf(terms.partOf(t, 1), NUMBER);
            int count = terms.valueOf(terms.partOf(t, 2), NUMBER);
            int box = terms.tailOf(t, DOT_PARTS);
            if (!isBelow(item, ITEMS) || !isBelow(device, DEVICES) || !isBelow(count, MOST_COUNT + 1)) {
                return NONE;
            }
            int content = terms.valueOf(terms.yOf(box), ATOM) - FIRST_CONTENT;
            boolean proper = terms.kindOf(box) == BOX
                    && terms.valueOf(terms.xOf(box), ATOM) == FIRST_ITEM_KEY + item
                    && isBelow(content, CONTENTS);
            return proper ? Entry.pack(item, device, count, content) : NONE;
        }
    }
}
