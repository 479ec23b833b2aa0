/** Promises 18 to 26: days, the least END, BEST, rings. */
public final class DaysTest {
    private static final int MIN = Integer.MIN_VALUE, MAX = Integer.MAX_VALUE;
    private static final Due due = new Due("DaysTest");

    public static void main(String[] args) {
        promise18();
        promise19();
        lawsThatAreNone();
        promise20();
        promise21();
        promise22();
        promise22Edges();
        promise23();
        promise24();
        promise25();
        promise26();
        due.finish();
    }

    private static void promise18() {
        OvenHouse x = LoavesTest.with(4, 3, 1, 2, 5, 4, 2, 3, 5, 6);
        due.is("18: AT ONCE", x.day(0, 0), 27);
        due.is("18: SHELF", x.day(1, 0), 23);
        due.is("18: one place", x.day(2, 1), 23);
        // A long bake first: the mixer waits for places.
        OvenHouse y = LoavesTest.with(1, 20, 1, 1, 1, 1, 1, 1, 1, 1, 30, 1);
        due.is("18: AT ONCE behind a long bake", y.day(0, 0), 1 + 20 + 4 + 29 + 1);
        due.is("18: SHELF behind it", y.day(1, 0), 36);
        due.is("18: 1 place", y.day(2, 1), 23 + 30 + 1);
        due.is("18: 2 places", y.day(2, 2), 22 + 30 + 1);
        due.is("18: 3 places", y.day(2, 3), 21 + 30 + 1);
        due.is("18: 4 places", y.day(2, 4), 36);
        due.is("18: 5 places", y.day(2, 5), 36);
        due.is("18: it changes nothing", y.at(0), 0);
        y.swap(0, 5);
        due.is("18: by THE ORDER", y.day(1, 0), 30 + 1 + 4 + 20);
        due.is("18: no loaves", new OvenHouse().day(2, 3), 0);
        OvenHouse most = new OvenHouse();
        for (int i = 0; i < 40; i++) {
            most.loaf(100000, 100000);
        }
        for (int law = 0; law < 3; law++) {
            due.is("18: forty of the longest", most.day(law, law / 2 * 5), 4100000);
        }
    }

    private static void moments(OvenHouse x, int law, int k, int... want) {
        for (int i = 0; i < want.length; i++) {
            String call = "19: moment " + law + " " + k + " " + i / 4 + " " + i % 4;
            due.is(call, x.moment(law, k, i / 4, i % 4), want[i]);
        }
    }

    private static void promise19() {
        OvenHouse x = LoavesTest.with(2, 6, 3, 1, 1, 4, 9, 2);
        moments(x, 0, 0, 0, 2, 2, 8, 5, 8, 8, 9, 8, 9, 9, 13, 9, 18, 18, 20);
        moments(x, 1, 0, 0, 2, 2, 8, 2, 5, 8, 9, 5, 6, 9, 13, 6, 15, 15, 17);
        moments(x, 2, 1, 0, 2, 2, 8, 2, 5, 8, 9, 5, 6, 9, 13, 8, 17, 17, 19);
        moments(x, 2, 2, 0, 2, 2, 8, 2, 5, 8, 9, 5, 6, 9, 13, 6, 15, 15, 17);
        x.swap(0, 1);
        due.is("19: by place", x.moment(1, 0, 0, 1), 3);
        due.is("19: place 4", x.moment(0, 0, 4, 0), OvenHouse.BAD);
        due.is("19: place -1", x.moment(0, 0, -1, 0), OvenHouse.BAD);
        due.is("19: place far off", x.moment(0, 0, MAX, 0), OvenHouse.BAD);
        due.is("19: what 4", x.moment(0, 0, 0, 4), OvenHouse.BAD);
        due.is("19: what -1", x.moment(0, 0, 0, -1), OvenHouse.BAD);
        due.is("19: no loaves", new OvenHouse().moment(0, 0, 0, 0), OvenHouse.BAD);
        OvenHouse raw = LoavesTest.with(0, 4, 0, 4);
        moments(raw, 0, 0, 0, 0, 0, 4, 4, 4, 4, 8);
        moments(raw, 2, 1, 0, 0, 0, 4, 0, 0, 4, 8);
    }

    private static void lawsThatAreNone() {
        OvenHouse x = LoavesTest.with(1, 1, 2, 2);
        int[] pairs = {-1, 0, 3, 0, 0, 1, 1, 1, 0, -1, 2, 0, 2, 6, 2, -1, MAX, MIN, MIN, 0, 2, MAX};
        for (int i = 0; i < pairs.length; i += 2) {
            int law = pairs[i];
            int k = pairs[i + 1];
            String of = " law " + law + " k " + k;
            due.is("18:" + of, x.day(law, k), OvenHouse.BAD);
            due.is("19:" + of, x.moment(law, k, 0, 0), OvenHouse.BAD);
            due.is("20:" + of, x.idle(law, k), OvenHouse.BAD);
            due.is("22:" + of, x.least(law, k), OvenHouse.BAD);
            due.is("23:" + of, x.second(law, k), OvenHouse.BAD);
            due.is("24:" + of, x.better(law, k), OvenHouse.BAD);
        }
        due.is("24: none counted for undo", x.count(4), 2);
        due.is("22: no BEST by these", x.count(3), 0);
        due.is("26: no rings by these", x.rings(0), OvenHouse.BAD);
        OvenHouse many = new OvenHouse();
        for (int i = 0; i < 8; i++) {
            many.loaf(i, i);
        }
        due.is("22: BAD ahead of SPENT", many.least(2, 6), OvenHouse.BAD);
        due.is("23: BAD ahead of SPENT", many.second(0, 1), OvenHouse.BAD);
        due.is("23: BAD ahead of NONE", new OvenHouse().second(0, 1), OvenHouse.BAD);
    }

    private static void promise20() {
        OvenHouse x = LoavesTest.with(2, 6, 3, 1, 1, 4, 9, 2);
        due.is("20: AT ONCE", x.idle(0, 0), 7);
        due.is("20: SHELF", x.idle(1, 0), 4);
        due.is("20: PLACES", x.idle(2, 1), 6);
        due.is("20: no loaves", new OvenHouse().idle(0, 0), 0);
        due.is("20: a cold one", LoavesTest.with(7, 0).idle(0, 0), 7);
        due.is("20: raw ones", LoavesTest.with(0, 4, 0, 4).idle(2, 1), 0);
    }

    private static void promise21() {
        due.is("21: no loaves", new OvenHouse().bound(), 0);
        due.is("21: by MIX", LoavesTest.with(4, 3, 1, 2, 5, 4).bound(), 12);
        due.is("21: by BAKE", LoavesTest.with(3, 4, 2, 1, 4, 5).bound(), 12);
        due.is("21: the greater one", LoavesTest.with(9, 1, 1, 8).bound(), 11);
        due.is("21: one", LoavesTest.with(100000, 100000).bound(), 200000);
    }

    private static void bestIs(String what, OvenHouse x, int... want) {
        for (int place = 0; place < want.length; place++) {
            due.is(what + ", best " + place, x.best(place), want[place]);
        }
        due.is(what + ", best behind", x.best(want.length), OvenHouse.NONE);
    }

    private static void promise22() {
        OvenHouse x = LoavesTest.with(4, 3, 1, 2, 5, 4, 2, 3, 5, 6);
        due.is("22: AT ONCE", x.least(0, 0), 21);
        x.use();
        due.is("22: its day", x.day(0, 0), 21);
        x.undo();
        due.is("22: SHELF", x.least(1, 0), 21);
        bestIs("22: by the rule", x, 1, 3, 4, 2, 0);
        due.is("22: THE ORDER stays", x.at(0), 0);
        due.is("22: nothing to undo", x.count(4), 4);
        OvenHouse y = LoavesTest.with(3, 0, 0, 4, 2, 2, 6, 1);
        due.is("22: PLACES", y.least(2, 1), 11);
        bestIs("22: the first that is least", y, 1, 2, 3, 0);
        OvenHouse like = LoavesTest.with(2, 2, 2, 2, 1, 2, 2, 2);
        due.is("22: of like ones", like.least(2, 2), 9);
        bestIs("22: the lesser numbers", like, 2, 0, 1, 3);
        like.swap(0, 3);
        like.least(2, 2);
        bestIs("22: whatever THE ORDER is", like, 2, 0, 1, 3);
        due.is("22: SHELF, nothing asked before", LoavesTest.with(3, 1, 1, 3).least(1, 0), 5);
        OvenHouse even = LoavesTest.with(1, 1, 0, 0);
        due.is("22: AT ONCE, P like Q", even.least(0, 0), 2);
        bestIs("22: P not above Q first", even, 1, 0);
        OvenHouse ring = LoavesTest.with(1, 3, 3, 1);
        due.is("22: AT ONCE, two", ring.least(0, 0), 5);
        bestIs("22: from behind the one more", ring, 0, 1);
    }

    private static void promise22Edges() {
        OvenHouse none = new OvenHouse();
        due.is("22: no loaves, AT ONCE", none.least(0, 0), 0);
        due.is("22: no loaves, SHELF", none.least(1, 0), 0);
        due.is("22: no loaves, PLACES", none.least(2, 5), 0);
        bestIs("22: no loaves", none);
        OvenHouse x = new OvenHouse();
        for (int i = 0; i < 7; i++) {
            x.loaf(7 - i, 1);
        }
        due.is("22: 7 loaves", x.least(2, 1), 29);
        x.loaf(9, 3);
        due.is("22: 8 loaves", x.least(2, 1), OvenHouse.SPENT);
        due.is("22: SPENT leaves BEST", x.best(6), 6);
        due.is("22: 8 loaves AT ONCE", x.least(0, 0), 38);
        due.is("22: 8 loaves, SHELF", x.least(1, 0), 38);
        due.is("22: 8 loaves in BEST", x.best(1), 7);
        OvenHouse most = new OvenHouse();
        for (int i = 0; i < 40; i++) {
            most.loaf(100000 - i, 99960 + i);
        }
        due.is("22: 40 loaves AT ONCE", most.least(0, 0), most.bound());
        due.is("22: 40 loaves, use", most.use(), 1);
        due.is("22: 40 loaves, their day", most.day(0, 0), most.bound());
    }

    private static void promise23() {
        OvenHouse x = LoavesTest.with(1, 3, 3, 1);
        due.is("23: the other row", x.second(1, 0), 7);
        x.swap(0, 1);
        due.is("23: the better one", x.second(1, 0), 5);
        due.is("23: AT ONCE", x.second(0, 0), 5);
        due.is("23: PLACES", x.second(2, 5), 5);
        due.is("23: like ones are other rows", LoavesTest.with(2, 2, 2, 2).second(0, 0), 6);
        OvenHouse laws = LoavesTest.with(1, 3, 2, 1, 2, 1);
        due.is("23: three AT ONCE", laws.second(0, 0), 7);
        due.is("23: three by SHELF", laws.second(1, 0), 6);
        due.is("23: no BEST by it", x.count(3), 0);
        due.is("23: no BEST by it, told", x.best(0), OvenHouse.NONE);
        x.least(1, 0);
        x.swap(0, 1);
        x.second(1, 0);
        due.is("23: BEST as it was", x.best(0), 0);
        due.is("23: no loaves", new OvenHouse().second(0, 0), OvenHouse.NONE);
        due.is("23: one loaf", LoavesTest.with(1, 1).second(2, 1), OvenHouse.NONE);
        OvenHouse y = LoavesTest.with(4, 3, 1, 2, 5, 4, 2, 3, 5, 6);
        y.least(0, 0);
        y.use();
        due.is("23: but THE ORDER", y.second(0, 0), 22);
        y.loaf(1, 1);
        y.loaf(1, 1);
        y.rule();
        due.is("23: 7 loaves", y.second(1, 0), 23);
        y.loaf(1, 1);
        due.is("23: 8 loaves", y.second(1, 0), OvenHouse.SPENT);
    }

    private static void promise24() {
        OvenHouse x = LoavesTest.with(3, 1, 1, 3);
        due.is("24: exchanged", x.better(1, 0), 1);
        due.is("24: first", x.at(0), 1);
        due.is("24: its day", x.day(1, 0), 5);
        due.is("24: none more", x.better(1, 0), 0);
        due.is("24: counted for undo", x.count(4), 4);
        x.undo();
        due.is("24: undone", x.undo(), 2);
        due.is("24: as ahead", x.at(0), 0);
        OvenHouse passes = LoavesTest.with(9, 1, 5, 2, 2, 4, 1, 8);
        due.is("24: many passes", passes.better(1, 0), 5);
        int[] order = {2, 3, 1, 0};
        for (int place = 0; place < 4; place++) {
            due.is("24: place " + place, passes.at(place), order[place]);
        }
        OvenHouse like = LoavesTest.with(1, 0, 0, 1, 0, 0);
        due.is("24: not where it is like", like.better(1, 0), 1);
        due.is("24: the raw one stays", like.at(2), 2);
        due.is("24: like rows are not exchanged", LoavesTest.with(2, 2, 2, 2).better(0, 0), 0);
        due.is("24: no loaves", new OvenHouse().better(2, 1), 0);
        due.is("24: one loaf", LoavesTest.with(5, 5).better(0, 0), 0);
    }

    private static void promise25() {
        OvenHouse x = LoavesTest.with(3, 1, 1, 3);
        due.is("25: none", x.best(0), OvenHouse.NONE);
        x.least(1, 0);
        bestIs("25: found", x, 1, 0);
        due.is("25: place -1", x.best(-1), OvenHouse.NONE);
        due.is("25: place 40", x.best(40), OvenHouse.NONE);
        due.is("25: place far off", x.best(MAX), OvenHouse.NONE);
        due.is("25: place far below", x.best(MIN), OvenHouse.NONE);
        x.loaf(0, 9);
        bestIs("25: as it was found", x, 1, 0);
        x.turn();
        x.undo();
        x.undo();
        x.undo();
        bestIs("25: also behind undo", x, 1, 0);
        x.loaf(1, 1);
        x.round();
        bestIs("25: by round", x, 0, 1);
        x.undo();
        x.undo();
        x.least(0, 0);
        bestIs("25: of no loaves", x);
    }

    private static void promise26() {
        OvenHouse x = LoavesTest.with(4, 3, 1, 2, 5, 4, 2, 3, 5, 6);
        for (int what = 0; what < 4; what++) {
            due.is("26: before any", x.rings(what), OvenHouse.BAD);
        }
        x.least(1, 0);
        x.least(2, 1);
        x.second(0, 0);
        x.round();
        ringsAre("26: by round, like points", x, 5, 0, 4, 0);
        x.least(0, 0);
        ringsAre("26: AT ONCE", x, 5, 2, 4, 1);
        x.least(1, 0);
        x.undo();
        x.price(0, -1, 0);
        x.round();
        ringsAre("26: a refused round leaves them", x, 5, 2, 4, 1);
        due.is("26: what 4", x.rings(4), OvenHouse.BAD);
        due.is("26: what -1", x.rings(-1), OvenHouse.BAD);
        OvenHouse y = new OvenHouse();
        y.round();
        due.is("26: refused, none yet", y.rings(0), OvenHouse.BAD);
        y.least(0, 0);
        ringsAre("26: of the one more alone", y, 1, 0, 0, 0);
        y.loaf(3, 4);
        y.heat(0, 10, 30);
        y.price(0, 0, 2);
        y.round();
        ringsAre("26: one loaf", y, 1, 40, 0, 0);
        y.loaf(1, 1);
        y.heat(1, 60, 100);
        y.price(1, 5, -3);
        y.round();
        // Each LOAF is a ring of its own; the JOIN goes from 30 (TO of 0) to 60 (FROM of 1).
        ringsAre("26: two loaves", y, 2, 40 - 120, 1, 20 * 2 + 10 * 2);
        y.undo();
        y.undo();
        y.least(0, 0);
        ringsAre("26: anew, of the loaf and the one more", y, 2, 0, 1, 3);
    }

    private static void ringsAre(String what, OvenHouse x, int... want) {
        for (int i = 0; i < 4; i++) {
            due.is(what + ", rings " + i, x.rings(i), want[i]);
        }
    }
}
