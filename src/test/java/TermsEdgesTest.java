/** The boundary cases that the document's Terms name: 1 LOAVES, 2 A DAY, 3 RINGS, 4 SHEETS. */
public final class TermsEdgesTest {
    private static final int BAD = OvenHouse.BAD, FULL = OvenHouse.FULL, NONE = OvenHouse.NONE;
    private static final Edges edges = new Edges("TermsEdgesTest");

    public static void main(String[] args) {
        loaves();
        kinds();
        theOrder();
        ends();
        atOnce();
        shelf();
        places();
        steps();
        pairing();
        weights();
        joins();
        exchanges();
        roundsAtOnce();
        roundsOfHeats();
        sheets();
        calls();
        edges.finish();
    }

    private static void loaves() {
        edges.edge("LOAVES 0, 1, ..: the first is 0, the next 1", due -> {
            OvenHouse x = new OvenHouse();
            due.is("loaf(5, 5)", x.loaf(5, 5), 0);
            due.is("loaf(5, 5)", x.loaf(5, 5), 1);
        });
        edges.edge("LOAVES 0, 1, ..: no number is left out behind undo()", due -> {
            OvenHouse x = Edges.alike(3, 1, 1);
            x.undo();
            due.is("loaf(5, 5)", x.loaf(5, 5), 2);
        });
        edges.edge("LOAVES, 40 at most: the 40th comes", due -> {
            OvenHouse x = Edges.alike(39, 1, 1);
            due.is("loaf(8, 9)", x.loaf(8, 9), 39);
            due.is("count(0)", x.count(0), 40);
            due.is("of(39, 0)", x.of(39, 0), 8);
            due.is("of(39, 1)", x.of(39, 1), 9);
        });
        edges.edge("LOAVES, 40 at most: a 41st does not come", due -> {
            OvenHouse x = Edges.alike(40, 1, 1);
            due.is("loaf(1, 1)", x.loaf(1, 1), FULL);
            due.is("count(0)", x.count(0), 40);
            due.is("of(40, 0)", x.of(40, 0), BAD);
        });
        edges.edge("a MIX is 0 at least", due -> {
            OvenHouse x = new OvenHouse();
            due.is("loaf(0, 7)", x.loaf(0, 7), 0);
            due.is("of(0, 0)", x.of(0, 0), 0);
            due.is("loaf(-1, 7)", x.loaf(-1, 7), BAD);
        });
        edges.edge("a MIX is 100000 at most", due -> {
            OvenHouse x = new OvenHouse();
            due.is("loaf(100000, 7)", x.loaf(100000, 7), 0);
            due.is("of(0, 0)", x.of(0, 0), 100000);
            due.is("loaf(100001, 7)", x.loaf(100001, 7), BAD);
        });
        edges.edge("a BAKE is 0 at least", due -> {
            OvenHouse x = new OvenHouse();
            due.is("loaf(7, 0)", x.loaf(7, 0), 0);
            due.is("of(0, 1)", x.of(0, 1), 0);
            due.is("loaf(7, -1)", x.loaf(7, -1), BAD);
        });
        edges.edge("a BAKE is 100000 at most", due -> {
            OvenHouse x = new OvenHouse();
            due.is("loaf(7, 100000)", x.loaf(7, 100000), 0);
            due.is("of(0, 1)", x.of(0, 1), 100000);
            due.is("loaf(7, 100001)", x.loaf(7, 100001), BAD);
        });
        edges.edge("a heat FROM and TO: 0 at first, with loaf()", due -> {
            OvenHouse x = Edges.with(3, 4);
            due.is("of(0, 2)", x.of(0, 2), 0);
            due.is("of(0, 3)", x.of(0, 3), 0);
        });
        edges.edge("a heat FROM and TO: 0 at first, with take()", due -> {
            OvenHouse x = Edges.heated(9, 8, 7, 6);
            Edges.lay(x, 0, 0, 1, 2);
            x.take(0, 0, 2);
            due.is("of(2, 2)", x.of(2, 2), 0);
            due.is("of(3, 3)", x.of(3, 3), 0);
        });
        edges.edge("a heat FROM and TO: 0 at first, where one with heats was taken back", due -> {
            OvenHouse x = new OvenHouse();
            x.loaf(1, 1);
            x.heat(0, 9, 8);
            x.undo();
            x.undo();
            x.loaf(2, 2);
            due.is("of(0, 2)", x.of(0, 2), 0);
            due.is("of(0, 3)", x.of(0, 3), 0);
        });
    }

    private static void kind(String sentence, int mix, int bake, int want) {
        edges.edge("KIND: " + sentence, due -> {
            OvenHouse x = Edges.with(9, 9, mix, bake);
            due.is("of(1, 4) of MIX " + mix + ", BAKE " + bake, x.of(1, 4), want);
        });
    }

    private static void kinds() {
        kind("RAW is the first that fits, MIX and BAKE 0", 0, 0, 3);
        kind("RAW is the first that fits, MIX 0, BAKE 1", 0, 1, 3);
        kind("RAW is the first that fits, MIX 0, BAKE most", 0, 100000, 3);
        kind("COLD fits ahead of SLOW, MIX 1, BAKE 0", 1, 0, 4);
        kind("COLD fits ahead of SLOW, MIX most, BAKE 0", 100000, 0, 4);
        kind("QUICK: MIX is like BAKE, both 1", 1, 1, 1);
        kind("QUICK: MIX is like BAKE, both most", 100000, 100000, 1);
        kind("QUICK: MIX is one less than BAKE", 1, 2, 1);
        kind("QUICK: MIX is one less than the greatest BAKE", 99999, 100000, 1);
        kind("SLOW: MIX is one above BAKE", 2, 1, 2);
        kind("SLOW: MIX is one above BAKE, and most", 100000, 99999, 2);
    }

    private static void theOrder() {
        edges.edge("THE ORDER: a LOAF that comes stands last, behind exchanged ones", due -> {
            OvenHouse x = Edges.alike(3, 1, 1);
            x.swap(0, 2);
            x.loaf(1, 1);
            Edges.order(due, x, 2, 1, 0, 3);
        });
        edges.edge("THE ORDER: LOAVES that are taken stand last, in their row", due -> {
            OvenHouse x = Edges.alike(2, 1, 1);
            x.swap(0, 1);
            Edges.lay(x, 0, 0, 1, 2, 3);
            x.take(0, 0, 3);
            Edges.order(due, x, 1, 0, 2, 3, 4);
        });
        edges.edge("THE ORDER: the first LOAF stands first and last", due -> {
            OvenHouse x = Edges.with(1, 1);
            Edges.order(due, x, 0);
            due.is("at(1)", x.at(1), NONE);
        });
        edges.edge("THE ORDER: all 40 LOAVES, each once", due -> {
            OvenHouse x = Edges.alike(40, 1, 1);
            for (int i = 0; i < 40; i++) {
                x.swap(i, i * 7 % 40);
            }
            boolean[] seen = new boolean[40];
            for (int place = 0; place < 40; place++) {
                int loaf = x.at(place);
                due.holds("at(" + place + ") is a LOAF seen first", loaf >= 0 && loaf < 40 && !seen[loaf]);
                seen[Math.floorMod(loaf, 40)] = true;
                due.is("of(" + loaf + ", 5)", x.of(loaf, 5), place);
            }
        });
    }

    private static void ends() {
        for (int[] law : Edges.LAWS) {
            String by = "LAW " + law[0] + ", k " + law[1];
            edges.edge("the END is 0 without LOAVES, " + by, due ->
                due.is("day", new OvenHouse().day(law[0], law[1]), 0));
            edges.edge("the first LOAF is mixed from moment 0 on, " + by, due -> {
                OvenHouse x = Edges.with(7, 9, 1, 1);
                due.is("mixing begins", x.moment(law[0], law[1], 0, 0), 0);
                due.is("mixing ends", x.moment(law[0], law[1], 0, 1), 7);
                due.is("baking begins", x.moment(law[0], law[1], 0, 2), 7);
                due.is("baking ends", x.moment(law[0], law[1], 0, 3), 16);
            });
            edges.edge("a first LOAF of no MIX and no BAKE, " + by, due -> {
                OvenHouse x = Edges.with(0, 0);
                for (int what = 0; what < 4; what++) {
                    due.is("moment " + what, x.moment(law[0], law[1], 0, what), 0);
                }
                due.is("day", x.day(law[0], law[1]), 0);
            });
            edges.edge("40 LOAVES of the longest, " + by, due -> {
                OvenHouse x = Edges.alike(40, 100000, 100000);
                due.is("day", x.day(law[0], law[1]), 4100000);
                due.is("the last one's baking begins", x.moment(law[0], law[1], 39, 2), 4000000);
            });
            edges.edge("the END is that of the last one in the oven, also of BAKE 0, " + by, due -> {
                OvenHouse x = Edges.with(1, 9, 2, 0);
                due.is("day", x.day(law[0], law[1]), 10);
                x.swap(0, 1);
                due.is("day, the other way", x.day(law[0], law[1]), 12);
            });
            edges.edge("a DAY goes by the row, not by the numbers, " + by, due -> {
                OvenHouse x = Edges.with(1, 9, 4, 1);
                x.swap(0, 1);
                due.is("the first's mixing ends", x.moment(law[0], law[1], 0, 1), 4);
                due.is("day", x.day(law[0], law[1]), 14);
            });
        }
    }

    private static void second(Due due, OvenHouse x, int law, int k, int... want) {
        for (int what = 0; what < 4; what++) {
            due.is("moment(" + law + ", " + k + ", 1, " + what + ")", x.moment(law, k, 1, what), want[what]);
        }
    }

    private static void atOnce() {
        edges.edge("AT ONCE: Y less its MIX is below X", due ->
            second(due, Edges.with(5, 4, 5, 1), 0, 0, 5, 10, 10, 11));
        edges.edge("AT ONCE: Y less its MIX is X", due ->
            second(due, Edges.with(5, 5, 5, 1), 0, 0, 5, 10, 10, 11));
        edges.edge("AT ONCE: Y less its MIX is one above X", due ->
            second(due, Edges.with(5, 6, 5, 1), 0, 0, 6, 11, 11, 12));
        edges.edge("AT ONCE: Y less its MIX is below 0", due ->
            second(due, Edges.with(0, 1, 9, 1), 0, 0, 0, 9, 9, 10));
        edges.edge("AT ONCE: of MIX 0, it waits for the oven", due ->
            second(due, Edges.with(2, 6, 0, 3), 0, 0, 8, 8, 8, 11));
        edges.edge("AT ONCE: X is the moment its mixing ends, not Y", due -> {
            OvenHouse x = Edges.with(1, 5, 2, 7, 9, 1);
            due.is("the third's mixing begins", x.moment(0, 0, 2, 0), 6);
        });
    }

    private static void shelf() {
        edges.edge("SHELF: mixing ends one ahead of the oven", due ->
            second(due, Edges.with(1, 3, 2, 5), 1, 0, 1, 3, 4, 9));
        edges.edge("SHELF: mixing ends as the oven is done", due ->
            second(due, Edges.with(1, 3, 3, 5), 1, 0, 1, 4, 4, 9));
        edges.edge("SHELF: mixing ends one behind the oven", due ->
            second(due, Edges.with(1, 3, 4, 5), 1, 0, 1, 5, 5, 10));
        edges.edge("SHELF: the mixer never waits, with 40 LOAVES on it", due -> {
            OvenHouse x = Edges.alike(40, 1, 100000);
            due.is("the last's mixing begins", x.moment(1, 0, 39, 0), 39);
            due.is("the last's baking begins", x.moment(1, 0, 39, 2), 3900001);
        });
    }

    private static void places() {
        for (int k = 1; k <= 5; k++) {
            int places = k;
            edges.edge("PLACES " + k + ": the LOAF " + k + " ahead in the row holds the mixer", due -> {
                OvenHouse x = Edges.with(1, 100, 1, 1, 1, 1, 1, 1, 1, 1, 1, 1, 1, 1, 1, 1);
                for (int place = 1; place <= places + 1; place++) {
                    due.is("mixing begins at place " + place, x.moment(2, places, place, 0), place);
                }
                due.is("the next waits", x.moment(2, places, places + 2, 0), 101);
                due.is("its mixing ends", x.moment(2, places, places + 2, 1), 102);
                due.is("what held it, mixing ends all the same", x.moment(2, places, places + 1, 1), places + 2);
            });
            edges.edge("PLACES " + k + ": no LOAF so far ahead in the row", due -> {
                OvenHouse x = Edges.alike(places, 1, 50);
                for (int place = 0; place < places; place++) {
                    due.is("mixing begins at place " + place, x.moment(2, places, place, 0), place);
                }
                due.is("as by SHELF", x.day(2, places), x.day(1, 0));
            });
        }
        edges.edge("PLACES: mixing ends as the baking of the one ahead began", due -> {
            OvenHouse x = Edges.with(1, 3, 1, 1, 2, 1, 1, 1);
            due.is("the second's baking begins", x.moment(2, 1, 1, 2), 4);
            due.is("the third's mixing ends", x.moment(2, 1, 2, 1), 4);
            due.is("the fourth's mixing begins", x.moment(2, 1, 3, 0), 4);
        });
        edges.edge("PLACES: mixing ends one ahead of it", due -> {
            OvenHouse x = Edges.with(1, 3, 1, 1, 1, 1, 1, 1);
            due.is("the third's mixing ends", x.moment(2, 1, 2, 1), 3);
            due.is("the fourth's mixing begins", x.moment(2, 1, 3, 0), 4);
        });
        edges.edge("PLACES: mixing ends one behind it", due -> {
            OvenHouse x = Edges.with(1, 3, 1, 1, 3, 1, 1, 1);
            due.is("the third's mixing ends", x.moment(2, 1, 2, 1), 5);
            due.is("the fourth's mixing begins", x.moment(2, 1, 3, 0), 5);
        });
        edges.edge("PLACES: its baking begins as by SHELF, behind a held mixer", due -> {
            OvenHouse x = Edges.with(1, 9, 1, 1, 1, 1, 5, 1, 1, 1);
            due.is("the fourth's mixing begins", x.moment(2, 1, 3, 0), 10);
            due.is("the fourth's baking begins", x.moment(2, 1, 3, 2), 15);
            due.is("day", x.day(2, 1), 17);
        });
    }

    /** What it costs to go from x to y. */
    private static int going(OvenHouse x, int from, int to) {
        x.heat(0, to, from);
        return x.cost();
    }

    private static OvenHouse withPrices() {
        OvenHouse x = Edges.with(1, 1);
        for (int stretch = 0; stretch < 8; stretch++) {
            x.price(stretch, stretch + 1, 10 * (stretch + 1));
        }
        return x;
    }

    private static void steps() {
        edges.edge("going from x to x costs nothing", due -> {
            OvenHouse x = withPrices();
            for (int degree : new int[] {0, 49, 50, 399}) {
                due.is("cost at " + degree, going(x, degree, degree), 0);
            }
        });
        edges.edge("the least step is of STRETCH 0", due -> {
            OvenHouse x = withPrices();
            due.is("up", going(x, 0, 1), 1);
            due.is("down", going(x, 1, 0), 10);
        });
        for (int stretch = 1; stretch < 8; stretch++) {
            int here = stretch;
            int bound = 50 * stretch;
            edges.edge("d by 50, cut: d " + (bound - 1) + " is of STRETCH " + (stretch - 1), due -> {
                OvenHouse x = withPrices();
                due.is("up", going(x, bound - 1, bound), here);
                due.is("down", going(x, bound, bound - 1), 10 * here);
            });
            edges.edge("d by 50, cut: d " + bound + " is of STRETCH " + stretch, due -> {
                OvenHouse x = withPrices();
                due.is("up", going(x, bound, bound + 1), here + 1);
                due.is("down", going(x, bound + 1, bound), 10 * (here + 1));
            });
        }
        edges.edge("the greatest step, d 398, is of STRETCH 7", due -> {
            OvenHouse x = withPrices();
            due.is("up", going(x, 398, 399), 8);
            due.is("down", going(x, 399, 398), 80);
        });
        edges.edge("all steps from 0 to 399", due -> {
            OvenHouse x = withPrices();
            due.is("up", going(x, 0, 399), 50 * 28 + 49 * 8);
            due.is("down", going(x, 399, 0), 500 * 28 + 490 * 8);
        });
        edges.edge("prices are 0 at first", due -> {
            OvenHouse x = Edges.with(1, 1);
            due.is("up", going(x, 0, 399), 0);
            due.is("down", going(x, 399, 0), 0);
        });
        edges.edge("the greatest prices: 40 LOAVES, all STRETCHES", due -> {
            OvenHouse x = Edges.priced(Edges.alike(40, 1, 1), 100, 100);
            for (int i = 0; i < 40; i++) {
                x.heat(i, i % 2 == 0 ? 399 : 0, i % 2 == 0 ? 399 : 0);
            }
            due.is("cost", x.cost(), 40 * 399 * 100);
            Edges.priced(x, -100, -100);
            due.is("the least cost", x.cost(), -40 * 399 * 100);
        });
    }

    private static void pairing() {
        edges.edge("PAIRING: of like P the lesser number is first", due -> {
            OvenHouse x = Edges.heated(1, 5, 2, 5);
            x.round();
            due.is("rings(0)", x.rings(0), 2);
        });
        edges.edge("PAIRING: of like Q the lesser number is first", due -> {
            OvenHouse x = Edges.heated(5, 1, 5, 2);
            x.round();
            due.is("rings(0)", x.rings(0), 2);
        });
        edges.edge("PAIRING: all P and Q like, each is a RING", due -> {
            OvenHouse x = Edges.heated(5, 5, 5, 5, 5, 5);
            x.round();
            Edges.rings(due, x, 3, 0, 2, 0);
        });
        edges.edge("PAIRING: P and Q the other way about are one RING", due -> {
            OvenHouse x = Edges.heated(1, 6, 2, 5);
            x.round();
            due.is("rings(0)", x.rings(0), 1);
            due.is("rings(2)", x.rings(2), 0);
        });
        edges.edge("PAIRING AT ONCE: of P 0 the one more is last", due -> {
            OvenHouse x = Edges.with(5, 0);
            x.least(0, 0);
            Edges.rings(due, x, 1, 5, 0, 0);
        });
        edges.edge("PAIRING AT ONCE: of Q 0 the one more is last", due -> {
            OvenHouse x = Edges.with(0, 5);
            x.least(0, 0);
            Edges.rings(due, x, 1, 0, 0, 0);
        });
        edges.edge("PAIRING AT ONCE: of P and Q 0 the one more is last", due -> {
            OvenHouse x = Edges.with(0, 0);
            x.least(0, 0);
            Edges.rings(due, x, 2, 0, 1, 0);
        });
    }

    /** Two LOAVES that are a RING each; the JOIN goes from 5 to to. */
    private static int weight(int to) {
        OvenHouse x = Edges.priced(Edges.heated(0, 5, to, 10), 1, 2);
        x.round();
        return x.rings(0) == 2 ? x.rings(3) : BAD;
    }

    private static void weights() {
        edges.edge("JOIN: 0 if the lesser one is below the greater one", due ->
            due.is("weight from 5 to 4", weight(4), 0));
        edges.edge("JOIN: 0 if they are like", due ->
            due.is("weight from 5 to 5", weight(5), 0));
        edges.edge("JOIN: one step, UP and DOWN together", due ->
            due.is("weight from 5 to 6", weight(6), 3));
        edges.edge("JOIN: from the greater one of P of U k and Q of V k, which is Q", due -> {
            OvenHouse x = Edges.priced(Edges.heated(7, 2, 20, 10), 1, 1);
            x.round();
            due.is("weight from 7 to 10", x.rings(3), 6);
        });
        edges.edge("JOIN: to the lesser one of P of U (k + 1) and Q of V (k + 1), which is Q", due -> {
            OvenHouse x = Edges.priced(Edges.heated(2, 7, 10, 20), 1, 1);
            x.round();
            due.is("weight from 7 to 10", x.rings(3), 6);
        });
        edges.edge("JOIN: steps of two STRETCHES", due -> {
            OvenHouse x = Edges.heated(49, 49, 51, 51);
            x.price(0, 3, 4);
            x.price(1, 50, 60);
            x.round();
            due.is("weight from 49 to 51", x.rings(3), 7 + 110);
        });
        edges.edge("JOIN: from 0 to 399", due -> {
            OvenHouse x = Edges.priced(Edges.heated(0, 0, 399, 399), 100, 100);
            due.is("round()", x.round(), 39900 * 2);
            due.is("rings(3)", x.rings(3), 39900 * 2);
        });
        edges.edge("JOIN: UP and DOWN together are 0", due -> {
            OvenHouse x = Edges.priced(Edges.heated(0, 0, 399, 399), 100, -100);
            due.is("round()", x.round(), 0);
            due.is("rings(3)", x.rings(3), 0);
        });
        edges.edge("JOIN AT ONCE: UP is 1 and DOWN 0, far above 399", due -> {
            OvenHouse x = Edges.with(100000, 100000);
            due.is("least(0, 0)", x.least(0, 0), 200000);
            Edges.rings(due, x, 2, 0, 1, 100000);
        });
    }

    private static void joins() {
        // LOAVES 0 and 2 are a RING, 1 is one of its own: either JOIN would do.
        edges.edge("JOINS: of like weights the lesser k first", due -> {
            OvenHouse x = Edges.priced(Edges.heated(30, 10, 20, 20, 10, 30), 0, 1);
            due.is("round()", x.round(), 10);
            Edges.rings(due, x, 2, 0, 1, 10);
            Edges.best(due, x, 0, 1, 2);
        });
        edges.edge("JOINS: by weight, the greater k is less by one step", due -> {
            OvenHouse x = Edges.priced(Edges.heated(30, 10, 21, 21, 10, 30), 0, 1);
            x.round();
            Edges.rings(due, x, 2, 0, 1, 9);
            Edges.best(due, x, 0, 2, 1);
        });
        edges.edge("JOINS: by weight, the lesser k is less by one step", due -> {
            OvenHouse x = Edges.priced(Edges.heated(30, 10, 19, 19, 10, 30), 0, 1);
            x.round();
            Edges.rings(due, x, 2, 0, 1, 9);
            Edges.best(due, x, 0, 1, 2);
        });
        edges.edge("JOINS: none in a RING that is one already", due -> {
            OvenHouse x = Edges.priced(Edges.heated(10, 30, 20, 10, 30, 20), 1, 1);
            x.round();
            due.is("rings(0)", x.rings(0), 1);
            due.is("rings(2)", x.rings(2), 0);
            due.is("rings(3)", x.rings(3), 0);
        });
        // RINGS 0-2 and 1-3: when JOIN 0 has joined them, JOINS 1 and 2 find one RING.
        edges.edge("JOINS: RINGS that JOINS taken have joined are one", due -> {
            OvenHouse x = Edges.priced(Edges.heated(30, 10, 40, 20, 10, 30, 20, 40), 1, 0);
            x.round();
            Edges.rings(due, x, 2, 0, 1, 10);
        });
        edges.edge("JOINS: 40 RINGS are joined by 39", due -> {
            OvenHouse x = Edges.priced(Edges.alike(40, 1, 1), 1, 1);
            for (int i = 0; i < 40; i++) {
                x.heat(i, 10 * i, 10 * i);
            }
            due.is("round()", x.round(), 2 * 390);
            Edges.rings(due, x, 40, 0, 39, 780);
        });
        edges.edge("JOINS AT ONCE: 41 RINGS are joined by 40", due -> {
            OvenHouse x = new OvenHouse();
            for (int i = 1; i <= 40; i++) {
                x.loaf(i, i);
            }
            due.is("least(0, 0)", x.least(0, 0), 820 + 40);
            Edges.rings(due, x, 41, 0, 40, 40);
        });
    }

    private static void exchanged(String sentence, int[] heats, int... want) {
        edges.edge("exchanged: " + sentence, due -> {
            OvenHouse x = Edges.priced(Edges.heated(heats), 1, 1);
            x.round();
            due.is("rings(0)", x.rings(0), want.length);
            Edges.best(due, x, want);
        });
    }

    private static void exchanges() {
        exchanged("P of U k like Q of V k is not above it: the greatest k first",
                new int[] {10, 10, 20, 20, 30, 30}, 0, 2, 1);
        exchanged("P of U k is one below Q of V k: the greatest k first",
                new int[] {11, 10, 21, 20, 31, 30}, 0, 2, 1);
        exchanged("P of U k is one above Q of V k: the least k first",
                new int[] {10, 11, 20, 21, 30, 31}, 0, 1, 2);
        exchanged("a lesser k with P above comes behind a greater one with P not above",
                new int[] {10, 11, 20, 20, 30, 30}, 0, 2, 1);
        exchanged("a greater k with P above comes behind a lesser one with P not above",
                new int[] {10, 10, 20, 21, 30, 30}, 0, 1, 2);
        exchanged("four, the greatest k first", new int[] {5, 0, 15, 10, 25, 20, 35, 30}, 0, 3, 2, 1);
        exchanged("four, the least k first", new int[] {0, 5, 10, 15, 20, 25, 30, 35}, 0, 1, 2, 3);
        edges.edge("exchanged: P of the last U does not matter", due -> {
            OvenHouse x = Edges.priced(Edges.heated(10, 10, 20, 25), 1, 1);
            x.round();
            Edges.best(due, x, 0, 1);
        });
    }

    private static void roundsAtOnce() {
        edges.edge("AT ONCE: no LOAVES, the one more alone", due -> {
            OvenHouse x = new OvenHouse();
            due.is("least(0, 0)", x.least(0, 0), 0);
            Edges.rings(due, x, 1, 0, 0, 0);
            Edges.best(due, x);
        });
        edges.edge("AT ONCE: one LOAF, behind the one more", due -> {
            OvenHouse x = Edges.with(4, 6);
            due.is("least(0, 0)", x.least(0, 0), 10);
            Edges.best(due, x, 0);
        });
        edges.edge("AT ONCE: the one more has Q and P 0, also where more LOAVES made RINGS before", due -> {
            OvenHouse x = Edges.heated(1, 2, 300, 200);
            x.round();
            for (int times = 0; times < 3; times++) {
                x.undo();
            }
            due.is("count(0)", x.count(0), 1);
            due.is("least(0, 0)", x.least(0, 0), 2);
            Edges.rings(due, x, 2, 0, 1, 1);
            Edges.best(due, x, 0);
        });
        edges.edge("AT ONCE: the one more has Q and P 0, also where one LOAF more was there before", due -> {
            OvenHouse x = Edges.with(4, 6, 50, 70);
            due.is("least(0, 0)", x.least(0, 0), 124);
            x.undo();
            due.is("least(0, 0)", x.least(0, 0), 10);
            Edges.rings(due, x, 2, 0, 1, 4);
        });
        edges.edge("AT ONCE: BEST begins behind the one more, not with LOAF 0", due -> {
            OvenHouse x = Edges.with(3, 1, 1, 3);
            due.is("least(0, 0)", x.least(0, 0), 5);
            Edges.best(due, x, 1, 0);
        });
        edges.edge("AT ONCE: the END is all BAKE and the cost of THE ROUND, not of THE PAIRING", due -> {
            OvenHouse x = Edges.with(5, 5, 9, 9);
            due.is("least(0, 0)", x.least(0, 0), 14 + 9);
            due.is("rings(1)", x.rings(1), 0);
            due.is("rings(3)", x.rings(3), 9);
        });
        edges.edge("AT ONCE: what price() tells does not matter", due -> {
            OvenHouse x = Edges.priced(Edges.with(5, 5, 9, 9), -100, 99);
            due.is("least(0, 0)", x.least(0, 0), 23);
        });
        edges.edge("AT ONCE: what heat() tells does not matter", due -> {
            OvenHouse x = Edges.with(5, 5, 9, 9);
            x.heat(0, 399, 0);
            x.heat(1, 0, 399);
            due.is("least(0, 0)", x.least(0, 0), 23);
        });
        edges.edge("AT ONCE: 40 LOAVES of the longest", due -> {
            OvenHouse x = Edges.alike(40, 100000, 100000);
            due.is("least(0, 0)", x.least(0, 0), 4100000);
            due.is("rings(0)", x.rings(0), 41);
            due.is("use()", x.use(), 1);
            due.is("day(0, 0)", x.day(0, 0), 4100000);
        });
    }

    private static void roundsOfHeats() {
        edges.edge("HEATS: one LOAF goes to itself", due -> {
            OvenHouse x = Edges.priced(Edges.heated(10, 30), 2, 3);
            due.is("round()", x.round(), 60);
            Edges.rings(due, x, 1, 60, 0, 0);
            Edges.best(due, x, 0);
        });
        edges.edge("HEATS: BEST is from LOAF 0 on, wherever it stands", due -> {
            OvenHouse x = Edges.priced(Edges.heated(10, 20, 20, 30, 30, 10), 1, 1);
            x.swap(0, 2);
            due.is("round()", x.round(), 0);
            Edges.best(due, x, 0, 1, 2);
        });
        edges.edge("HEATS: 40 LOAVES in one RING", due -> {
            OvenHouse x = Edges.priced(Edges.alike(40, 1, 1), 1, 0);
            for (int i = 0; i < 40; i++) {
                x.heat(i, 10 * (39 - i), 10 * ((39 - i + 1) % 40));
            }
            due.is("round()", x.round(), 0);
            due.is("rings(0)", x.rings(0), 1);
            due.is("best(0)", x.best(0), 0);
            due.is("best(1)", x.best(1), 39);
            due.is("best(39)", x.best(39), 1);
        });
        edges.edge("HEATS: MIX and BAKE do not matter", due -> {
            OvenHouse x = Edges.priced(Edges.with(100000, 0, 0, 100000), 1, 1);
            due.is("round()", x.round(), 0);
        });
        edges.edge("HEATS: the step of d 398 counts", due -> {
            OvenHouse x = Edges.heated(399, 398);
            x.price(7, 7, 0);
            due.is("round()", x.round(), 7);
        });
    }

    private static void sheets() {
        for (int s = 0; s < 4; s++) {
            int number = s;
            edges.edge("SHEET " + s + " is LOST at first", due -> {
                OvenHouse x = new OvenHouse();
                due.is("lose", x.lose(number), Edges.NULL);
                due.is("put", x.put(number, 0, 0, 1), Edges.NULL);
            });
            edges.edge("SHEET " + s + " has items of its own", due -> {
                OvenHouse x = new OvenHouse();
                for (int other = 0; other < 4; other++) {
                    Edges.lay(x, other, 2, other, 10 * other);
                }
                x.put(number, 2, 1, 99);
                for (int other = 0; other < 4; other++) {
                    Edges.items(due, x, other, 2, other, other == number ? 99 : 10 * other);
                }
            });
        }
        edges.edge("SHEETS 0 .. 3: none is -1, none is 4", due -> {
            OvenHouse x = new OvenHouse();
            due.is("sheet(-1, 0, 1)", x.sheet(-1, 0, 1), BAD);
            due.is("sheet(4, 0, 1)", x.sheet(4, 0, 1), BAD);
            due.is("sheet(3, 0, 1)", x.sheet(3, 0, 1), 1);
            due.is("sheet(0, 0, 1)", x.sheet(0, 0, 1), 1);
        });
        edges.edge("FORMS 0 .. 2: none is -1, none is 3", due -> {
            OvenHouse x = new OvenHouse();
            due.is("sheet(0, -1, 1)", x.sheet(0, -1, 1), BAD);
            due.is("sheet(0, 3, 1)", x.sheet(0, 3, 1), BAD);
            due.is("sheet(0, 0, 1)", x.sheet(0, 0, 1), 1);
            due.is("sheet(0, 2, 1)", x.sheet(0, 2, 1), 1);
        });
        for (int form = 0; form < 3; form++) {
            int of = form;
            edges.edge("FORM " + form + ": 40 items, 0 at first", due -> {
                OvenHouse x = new OvenHouse();
                due.is("sheet", x.sheet(1, of, 40), 40);
                for (int i = 0; i < 40; i++) {
                    due.is("get " + i, x.get(1, of, i), 0);
                }
                due.is("get 40", x.get(1, of, 40), Edges.MIN);
            });
            edges.edge("FORM " + form + ": a SHEET of 0 items is not LOST", due -> {
                OvenHouse x = new OvenHouse();
                due.is("sheet", x.sheet(1, of, 0), 0);
                due.is("put", x.put(1, of, 0, 1), Edges.INDEX);
                due.is("copy", x.copy(1, 0, 1, 0, 0), 1);
                due.is("take", x.take(1, 1, 1), Edges.INDEX);
                due.is("lose", x.lose(1), 0);
                due.is("lose, again", x.lose(1), Edges.NULL);
            });
        }
        edges.edge("FINDINGS are answers -10 less the number, 1 to 5", due -> {
            OvenHouse x = new OvenHouse();
            due.is("NULL", x.lose(0), -11);
            Edges.lay(x, 0, 0, 1);
            Edges.lay(x, 1, 1, 1);
            due.is("INDEX", x.put(0, 0, 1, 1), -12);
            due.is("CAST", x.put(0, 1, 0, 1), -13);
            due.is("STORE", x.copy(0, 0, 1, 0, 1), -14);
            due.is("SIZE", x.sheet(0, 0, -1), -15);
        });
    }

    private static void calls() {
        edges.edge("an object is used for 512 calls: the last ones answer as the first ones", due -> {
            OvenHouse x = Edges.with(1, 2, 3, 4);
            for (int call = 3; call <= 509; call++) {
                due.is("swap(0, 1), call " + call, x.swap(0, 1), 1);
            }
            due.is("at(0), call 510", x.at(0), 1);
            due.is("undo(), call 511", x.undo(), 4);
            due.is("at(0), call 512", x.at(0), 0);
        });
        edges.edge("two objects have nothing in common", due -> {
            OvenHouse x = Edges.with(1, 2, 3, 4);
            OvenHouse y = new OvenHouse();
            x.price(0, 1, 1);
            x.sheet(0, 0, 3);
            x.least(0, 0);
            due.is("digest()", y.digest(), new OvenHouse().digest());
            due.is("lose(0)", y.lose(0), Edges.NULL);
            due.is("count(3)", y.count(3), 0);
            due.is("rings(0)", y.rings(0), BAD);
            due.is("x has its LOAVES", x.count(0), 2);
        });
    }
}
