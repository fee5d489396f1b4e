import java.util.ArrayList;
import java.util.List;

/**
 * "A term is a SEAL if it is the one of some state." Each part of a sealed state in turn gives way to each of many other
 * terms, and the model, which seals the state anew and compares, tells whether a device must take what comes of it.
 */
public final class SealPartsTest extends Forger {
    private static final int NONE = -1;
    private static final int ENOUGH_CALLS = Run.MOST_CALLS - 60;

    private int state;
    private int seal;
    private List<Integer> others;
    private int taken;
    private int refused;

    public static void main(String[] args) {
        SealPartsTest test = new SealPartsTest();
        test.prepare();
        test.partsOfTheState();
        test.partsOfTheSeal();
        test.checks.due("some are taken", test.taken > 20, true);
        test.checks.due("most are refused", test.refused > test.taken, true);
        test.checks.end();
    }

    /** The same calls each time, so that the numbers of all terms stay the same. */
    private void prepare() {
        start("a part of a SEAL gives way to another term");
        int seven = x.call("build", KEY, x.call("leak", 7), atom(8));
        int first = entry(0, 1, 2, box0);
        int list = entries(first, entry(0, 1, 4, box0), entry(1, 0, 3, box1));
        state = state(5, 1, header, vector(6, 4, 2), list);
        seal = sealed(state);
        others = new ArrayList<>(List.of(atom(0), atom(7), atom(8), atom(9), header, box0, box1, box2, first, list, state,
                seal, x.call("term", seal, 2), x.call("build", BOX, seven, atom(9)), seven, content(13, 153)));
        others.add(x.call("build", KEY, atom(0), atom(0)));
        others.add(x.call("build", KEY, atom(0), atom(9)));
        others.add(x.call("build", MARK, atom(9), first));
        for (int n = 0; n <= 13; n++) {
            others.add(number(n));
        }
    }

    private void partsOfTheState() {
        List<String> places = places(state);
        checks.due("there are parts", places.size() > 40, true);
        for (String place : places) {
            for (int other : others) {
                checks.about("term " + other + " in the state at " + place);
                send(sealed(replaced(state, place, other)));
            }
            for (int kind = KEY; kind <= MARK; kind++) {
                checks.about("kind " + kind + " in the state at " + place);
                int other = ofKind(kind, at(state, place));
                if (other != NONE) {
                    send(sealed(replaced(state, place, other)));
                }
            }
        }
    }

    /** Here the MARK stays as it is, or only a part of it gives way. */
    private void partsOfTheSeal() {
        for (String place : new String[] {"", "x", "y", "yx", "yy"}) {
            for (int other : others) {
                checks.about("term " + other + " in the seal at " + place);
                send(replaced(seal, place, other));
            }
            for (int kind = KEY; kind <= MARK; kind++) {
                checks.about("kind " + kind + " in the seal at " + place);
                int other = ofKind(kind, at(seal, place));
                if (other != NONE) {
                    send(replaced(seal, place, other));
                }
            }
        }
    }

    /** The term of this kind with the x and y of the part; NONE if it has none that are KNOWN. */
    private int ofKind(int kind, int part) {
        int first = x.model.term(part, 1);
        int second = x.model.term(part, 2);
        boolean fits = x.model.term(part, 0) >= KEY && x.model.known(first) && x.model.known(second);
        return fits ? x.call("build", kind, first, second) : NONE;
    }

    private List<String> places(int whole) {
        List<String> places = new ArrayList<>();
        addPlaces(places, "", whole);
        return places;
    }

    /** The ways to all parts, but not into what is hidden, for that cannot be made anew. */
    private void addPlaces(List<String> places, String place, int t) {
        places.add(place);
        int first = x.model.term(t, 1);
        int second = x.model.term(t, 2);
        if (x.model.term(t, 0) >= KEY && x.model.known(first) && x.model.known(second)) {
            addPlaces(places, place + "x", first);
            addPlaces(places, place + "y", second);
        }
    }

    private int at(int t, String place) {
        int part = t;
        for (int i = 0; i < place.length(); i++) {
            part = x.model.term(part, place.charAt(i) == 'x' ? 1 : 2);
        }
        return part;
    }

    /** The whole with the other term in this place. */
    private int replaced(int whole, String place, int other) {
        int made = other;
        for (int depth = place.length() - 1; depth >= 0; depth--) {
            int above = at(whole, place.substring(0, depth));
            boolean first = place.charAt(depth) == 'x';
            int beside = x.model.term(above, first ? 2 : 1);
            made = x.call("build", x.model.term(above, 0), first ? made : beside, first ? beside : made);
        }
        return made;
    }

    /** What was taken is in the way of what comes next, and calls are few: then all begins anew. */
    private void send(int t) {
        checks.due("it can be sent", x.call("forge", 0, t), 1);
        x.call("deliver", 0);
        boolean took = x.call("device", 0, 10) != NONE;
        taken += took ? 1 : 0;
        refused += took ? 0 : 1;
        if (took) {
            lookAtDevice();
        }
        if (took || x.run().size() > ENOUGH_CALLS) {
            prepare();
        }
    }

    private void lookAtDevice() {
        for (int w = 0; w <= 10; w++) {
            x.call("device", 0, w);
        }
        for (int item = 0; item < 4; item++) {
            for (int k = -1; k < 3; k++) {
                x.call("get", 0, item, k);
            }
        }
        x.call("lock", 0);
        x.call("unlock", 0, 7);
        x.call("unlock", 0, 0);
    }
}
