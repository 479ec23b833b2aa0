/** Promises 27 to 32: rounds of heats, batches, counts, the digest. */
public final class HeatsTest {
    private static final int MIN = Integer.MIN_VALUE, MAX = Integer.MAX_VALUE;
    private static final Due due = new Due("HeatsTest");

    public static void main(String[] args) {
        promise27();
        promise28();
        promise28Refusals();
        promise29();
        promise30();
        promise31();
        promise32();
        due.finish();
    }

    private static OvenHouse heated(int... fromAndTo) {
        OvenHouse x = new OvenHouse();
        for (int i = 0; i < fromAndTo.length; i += 2) {
            x.loaf(1, 1);
            x.heat(i / 2, fromAndTo[i], fromAndTo[i + 1]);
        }
        return x;
    }

    private static void promise27() {
        OvenHouse x = heated(10, 90, 300, 20, 60, 60);
        due.is("27: free", x.cost(), 0);
        x.price(0, 2, 1);
        x.price(1, 1, 0);
        due.is("27: the round", x.cost(), 10 + (30 * 2 + 10) + 40);
        x.swap(0, 1);
        due.is("27: by THE ORDER", x.cost(), 10 + 0 + 40);
        x.price(1, 1, -7);
        due.is("27: prices below 0", x.cost(), 10 - 30 * 7 + 40);
        due.is("27: no loaves", new OvenHouse().cost(), 0);
        OvenHouse one = heated(5, 55);
        one.price(0, 0, 3);
        one.price(1, 0, 4);
        due.is("27: one loaf", one.cost(), 45 * 3 + 5 * 4);
    }

    private static void promise28() {
        OvenHouse x = heated(10, 90, 300, 20, 60, 60);
        x.price(0, 2, 1);
        x.price(1, 1, 0);
        due.is("28: the cost", x.round(), 50);
        due.is("28: BEST is told", x.count(3), 1);
        due.is("28: from loaf 0", x.best(0), 0);
        due.is("28: nothing to undo", x.count(4), 5);
        x.use();
        due.is("28: it costs so much", x.cost(), 50);
        due.is("28: one loaf", heated(7, 7).round(), 0);
        OvenHouse y = heated(0, 399, 200, 10, 390, 50);
        y.price(0, 1, -1);
        y.price(3, 5, 0);
        y.price(7, 2, 3);
        due.is("28: prices below 0", y.round(), 267);
        OvenHouse apart = heated(0, 5, 10, 15, 20, 25, 30, 35);
        apart.price(0, 1, 1);
        due.is("28: rings joined", apart.round(), 20 + 2 * 15);
        due.is("28: four rings", apart.rings(0), 4);
        due.is("28: three joins", apart.rings(2), 3);
        int[] row = {0, 1, 2, 3};
        for (int place = 0; place < 4; place++) {
            due.is("28: the others, least first, place " + place, apart.best(place), row[place]);
        }
        OvenHouse back = heated(5, 0, 15, 10, 25, 20, 35, 30);
        back.price(0, 1, 1);
        due.is("28: rings joined upward", back.round(), 50);
        int[] other = {0, 3, 2, 1};
        for (int place = 0; place < 4; place++) {
            due.is("28: the greatest first, place " + place, back.best(place), other[place]);
        }
    }

    private static void promise28Refusals() {
        OvenHouse none = new OvenHouse();
        due.is("28: no loaves", none.round(), OvenHouse.NOT);
        due.is("28: no BEST", none.count(3), 0);
        OvenHouse x = heated(7, 7);
        for (int stretch = 0; stretch < 8; stretch++) {
            x.price(stretch, 5, -6);
            due.is("28: together below 0, stretch " + stretch, x.round(), OvenHouse.NOT);
            x.price(stretch, 6, -6);
            due.is("28: together 0, stretch " + stretch, x.round(), 0);
        }
    }

    private static void promise29() {
        OvenHouse x = heated(10, 90, 300, 20, 60, 60);
        x.price(0, 2, 1);
        x.price(1, 1, 0);
        due.is("29: the least", x.through(), 50);
        due.is("29: no BEST by it", x.count(3), 0);
        x.price(0, -3, -5);
        due.is("29: where round() is NOT", x.through(), 10 + (-90 + 10) - 40 * 5);
        due.is("29: no loaves", new OvenHouse().through(), OvenHouse.NOT);
        due.is("29: one loaf", heated(9, 4).through(), 0);
        OvenHouse one = heated(9, 4);
        one.price(0, 7, 0);
        due.is("29: one loaf's way", one.through(), 35);
        OvenHouse eight = heated(0, 5, 10, 15, 20, 25, 30, 35, 40, 45, 50, 55, 60, 65, 70, 75);
        eight.price(0, 1, 1);
        eight.price(1, 1, 1);
        due.is("29: 8 loaves", eight.through(), 110);
        due.is("29: as by rings", eight.round(), 110);
        eight.loaf(1, 1);
        due.is("29: 9 loaves", eight.through(), OvenHouse.SPENT);
    }

    private static void promise30() {
        OvenHouse x = LoavesTest.with(1, 3, 1, 2, 1, 4, 1, 3, 1, 6);
        due.is("30: 1", x.batches(1), 18);
        due.is("30: 2", x.batches(2), 6 + 3 + 2);
        due.is("30: 3", x.batches(3), 6 + 3);
        due.is("30: 4", x.batches(4), 6 + 2);
        due.is("30: 5", x.batches(5), 6);
        due.is("30: 40", x.batches(40), 6);
        due.is("30: 41", x.batches(41), OvenHouse.BAD);
        due.is("30: 0", x.batches(0), OvenHouse.BAD);
        due.is("30: -1", x.batches(-1), OvenHouse.BAD);
        due.is("30: far off", x.batches(MAX), OvenHouse.BAD);
        due.is("30: far below", x.batches(MIN), OvenHouse.BAD);
        due.is("30: no loaves", new OvenHouse().batches(3), 0);
        due.is("30: THE ORDER stays", x.at(0), 0);
    }

    private static void promise31() {
        OvenHouse x = LoavesTest.with(1, 30, 2, 40);
        due.is("31: LOAVES", x.count(0), 2);
        due.is("31: all MIX", x.count(1), 3);
        due.is("31: all BAKE", x.count(2), 70);
        due.is("31: no BEST", x.count(3), 0);
        due.is("31: to take back", x.count(4), 2);
        due.is("31: no finding", x.count(5), 0);
        x.least(1, 0);
        due.is("31: a BEST", x.count(3), 1);
        x.undo();
        due.is("31: a BEST no more", x.count(3), 0);
        due.is("31: less to take back", x.count(4), 1);
        due.is("31: less MIX", x.count(1), 1);
        due.is("31: less BAKE", x.count(2), 30);
        x.sheet(0, 0, -1);
        due.is("31: SIZE", x.count(5), 5);
        x.lose(0);
        due.is("31: NULL", x.count(5), 1);
        x.sheet(0, 1, 1);
        x.put(0, 1, 1, 1);
        due.is("31: INDEX", x.count(5), 2);
        x.sheet(1, 2, 1);
        x.copy(0, 0, 1, 0, 1);
        due.is("31: STORE", x.count(5), 4);
        x.put(0, 0, 1, 1);
        due.is("31: CAST", x.count(5), 3);
        x.sheet(9, 0, -1);
        due.is("31: BAD is none", x.count(5), 3);
        due.is("31: what -1", x.count(-1), OvenHouse.BAD);
        due.is("31: what 6", x.count(6), OvenHouse.BAD);
        due.is("31: what far off", x.count(MIN), OvenHouse.BAD);
        for (int i = 0; i < 8; i++) {
            x.swap(0, 0);
        }
        due.is("31: at most 5 to take back", x.count(4), 5);
    }

    private static long digestOf(long... each) {
        long h = 17;
        for (long one : each) {
            h = 31 * h + one;
        }
        return h;
    }

    private static void promise32() {
        OvenHouse x = LoavesTest.with(100000, 7, 0, 9, 3, 3);
        x.heat(0, 399, 12);
        x.swap(0, 1);
        x.price(0, 100, -100);
        x.price(7, -5, 6);
        long want = digestOf(100000, 7, 399, 12, 2, 1, 0, 9, 0, 0, 3, 0, 3, 3, 0, 0, 1, 2,
                1, 0, 2, 100, -100, 0, 0, 0, 0, 0, 0, 0, 0, 0, 0, 0, 0, -5, 6);
        due.is("32: all of it", x.digest(), want);
        x.least(0, 0);
        x.sheet(0, 0, 3);
        x.day(0, 0);
        due.is("32: nothing else", x.digest(), want);
        due.is("32: no loaves", new OvenHouse().digest(), digestOf(new long[16]));
    }
}
