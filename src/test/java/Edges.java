import java.util.HashSet;
import java.util.Set;

/** Edge cases, each one a test of its own, told by the sentence of the document that names it. */
final class Edges {
    interface Case {
        void run(Due due);
    }

    static final int MIN = Integer.MIN_VALUE, MAX = Integer.MAX_VALUE;
    /** Every LAW with every k that goes with it. */
    static final int[][] LAWS = {{0, 0}, {1, 0}, {2, 1}, {2, 2}, {2, 3}, {2, 4}, {2, 5}};
    static final int NULL = -11, INDEX = -12, CAST = -13, STORE = -14, SIZE = -15;

    private final String test;
    private final Set<String> sentences = new HashSet<>();
    private int held = 0;
    private int broken = 0;

    Edges(String test) {
        this.test = test;
    }

    void edge(String sentence, Case edge) {
        Due due = new Due(test + ": " + sentence);
        due.holds("no other edge has this name", sentences.add(sentence));
        int before = due.asked();
        try {
            edge.run(due);
            due.holds("the edge asks something", due.asked() > before);
        } catch (RuntimeException thrown) {
            due.holds("threw " + thrown + " and that", false);
        }
        if (due.allRight()) {
            held++;
        } else {
            broken++;
        }
    }

    void finish() {
        System.out.println(test + ": " + held + " edges hold, " + broken + " do not");
        if (broken != 0 || held == 0) {
            System.exit(1);
        }
    }

    /** A new object with LOAVES by MIX, BAKE, MIX, BAKE, .. */
    static OvenHouse with(int... mixAndBake) {
        OvenHouse x = new OvenHouse();
        for (int i = 0; i < mixAndBake.length; i += 2) {
            x.loaf(mixAndBake[i], mixAndBake[i + 1]);
        }
        return x;
    }

    /** A new object with so many like LOAVES. */
    static OvenHouse alike(int n, int mix, int bake) {
        OvenHouse x = new OvenHouse();
        for (int i = 0; i < n; i++) {
            x.loaf(mix, bake);
        }
        return x;
    }

    /** A new object with LOAVES by FROM, TO, FROM, TO, .. */
    static OvenHouse heated(int... fromAndTo) {
        OvenHouse x = alike(fromAndTo.length / 2, 1, 1);
        for (int i = 0; i < fromAndTo.length; i += 2) {
            x.heat(i / 2, fromAndTo[i], fromAndTo[i + 1]);
        }
        return x;
    }

    static OvenHouse priced(OvenHouse x, int up, int down) {
        for (int stretch = 0; stretch < 8; stretch++) {
            x.price(stretch, up, down);
        }
        return x;
    }

    /** A SHEET of these items. */
    static void lay(OvenHouse x, int s, int form, int... items) {
        x.sheet(s, form, items.length);
        for (int i = 0; i < items.length; i++) {
            x.put(s, form, i, items[i]);
        }
    }

    static void items(Due due, OvenHouse x, int s, int form, int... want) {
        for (int i = 0; i < want.length; i++) {
            due.is("get(" + s + ", " + form + ", " + i + ")", x.get(s, form, i), want[i]);
        }
    }

    static void order(Due due, OvenHouse x, int... want) {
        due.is("count(0)", x.count(0), want.length);
        for (int place = 0; place < want.length; place++) {
            due.is("at(" + place + ")", x.at(place), want[place]);
            due.is("of(" + want[place] + ", 5)", x.of(want[place], 5), place);
        }
    }

    static void best(Due due, OvenHouse x, int... want) {
        for (int place = 0; place < want.length; place++) {
            due.is("best(" + place + ")", x.best(place), want[place]);
        }
        due.is("best(" + want.length + ")", x.best(want.length), OvenHouse.NONE);
    }

    static void rings(Due due, OvenHouse x, int... want) {
        for (int what = 0; what < want.length; what++) {
            due.is("rings(" + what + ")", x.rings(what), want[what]);
        }
    }
}
