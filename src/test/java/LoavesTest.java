/** Promises 8 to 17: loaves, the order, undo. */
public final class LoavesTest {
    private static final int MIN = Integer.MIN_VALUE, MAX = Integer.MAX_VALUE;
    private static final Due due = new Due("LoavesTest");

    public static void main(String[] args) {
        promise8();
        promise9();
        promise10();
        promise11();
        promise12();
        promise13();
        promise14();
        promise15();
        promise16();
        promise17();
        promise17Latest();
        due.finish();
    }

    static OvenHouse with(int... mixAndBake) {
        OvenHouse x = new OvenHouse();
        for (int i = 0; i < mixAndBake.length; i += 2) {
            x.loaf(mixAndBake[i], mixAndBake[i + 1]);
        }
        return x;
    }

    private static void order(String what, OvenHouse x, int... want) {
        for (int place = 0; place < want.length; place++) {
            due.is(what + ", place " + place, x.at(place), want[place]);
            due.is(what + ", of " + place, x.of(want[place], 5), place);
        }
        due.is(what + ", behind", x.at(want.length), OvenHouse.NONE);
    }

    private static void promise8() {
        OvenHouse x = new OvenHouse();
        due.is("8: the first", x.loaf(0, 0), 0);
        due.is("8: longest", x.loaf(100000, 100000), 1);
        due.is("8: MIX too long", x.loaf(100001, 0), OvenHouse.BAD);
        due.is("8: BAKE too long", x.loaf(0, 100001), OvenHouse.BAD);
        due.is("8: MIX below 0", x.loaf(-1, 0), OvenHouse.BAD);
        due.is("8: BAKE below 0", x.loaf(0, -1), OvenHouse.BAD);
        due.is("8: extremes", x.loaf(MAX, MIN), OvenHouse.BAD);
        due.is("8: two", x.count(0), 2);
        for (int i = 2; i < 40; i++) {
            due.is("8: number " + i, x.loaf(i, i + 1), i);
        }
        due.is("8: BAD ahead of FULL", x.loaf(-1, 0), OvenHouse.BAD);
        due.is("8: FULL", x.loaf(0, 0), OvenHouse.FULL);
        due.is("8: 40", x.count(0), 40);
        due.is("8: the last's MIX", x.of(39, 0), 39);
        due.is("8: the last's BAKE", x.of(39, 1), 40);
        due.is("8: it stands last", x.at(39), 39);
        OvenHouse y = with(1, 1, 2, 2);
        y.heat(1, 5, 6);
        y.undo();
        y.heat(0, 5, 6);
        y.undo();
        y.undo();
        y.loaf(3, 3);
        due.is("8: a new one's FROM", y.of(1, 2), 0);
        due.is("8: a new one's TO", y.of(1, 3), 0);
    }

    private static void promise9() {
        OvenHouse x = with(0, 0, 0, 5, 5, 0, 3, 3, 3, 4, 4, 3);
        x.heat(2, 399, 7);
        x.swap(2, 5);
        int[] kinds = {3, 3, 4, 1, 1, 2};
        for (int loaf = 0; loaf < 6; loaf++) {
            due.is("9: KIND " + loaf, x.of(loaf, 4), kinds[loaf]);
        }
        due.is("9: MIX", x.of(2, 0), 5);
        due.is("9: BAKE", x.of(2, 1), 0);
        due.is("9: FROM", x.of(2, 2), 399);
        due.is("9: TO", x.of(2, 3), 7);
        due.is("9: place", x.of(2, 5), 5);
        due.is("9: what -1", x.of(0, -1), OvenHouse.BAD);
        due.is("9: what 6", x.of(0, 6), OvenHouse.BAD);
        due.is("9: no such loaf", x.of(6, 0), OvenHouse.BAD);
        due.is("9: loaf -1", x.of(-1, 0), OvenHouse.BAD);
        due.is("9: loaf 40", x.of(40, 5), OvenHouse.BAD);
        due.is("9: loaf far off", x.of(MAX, 5), OvenHouse.BAD);
    }

    private static void promise10() {
        OvenHouse x = with(1, 1, 2, 2);
        due.is("10: heat", x.heat(1, 0, 399), 1);
        due.is("10: FROM", x.of(1, 2), 0);
        due.is("10: TO", x.of(1, 3), 399);
        due.is("10: the other's TO", x.of(0, 3), 0);
        due.is("10: FROM 400", x.heat(1, 400, 0), OvenHouse.BAD);
        due.is("10: TO 400", x.heat(1, 0, 400), OvenHouse.BAD);
        due.is("10: FROM below", x.heat(1, -1, 0), OvenHouse.BAD);
        due.is("10: TO below", x.heat(1, 0, -1), OvenHouse.BAD);
        due.is("10: no such loaf", x.heat(2, 0, 0), OvenHouse.BAD);
        due.is("10: loaf -1", x.heat(-1, 0, 0), OvenHouse.BAD);
        due.is("10: loaf far off", x.heat(MIN, 0, 0), OvenHouse.BAD);
        due.is("10: as it was", x.of(1, 3), 399);
        due.is("10: none of these to undo", x.count(4), 3);
        due.is("10: undone", x.undo(), 2);
        due.is("10: TO ahead of it", x.of(1, 3), 0);
    }

    private static void promise11() {
        OvenHouse x = with(1, 1);
        x.heat(0, 399, 0);
        due.is("11: free at first", x.cost(), 0);
        int all = 0;
        for (int stretch = 0; stretch < 8; stretch++) {
            due.is("11: price", x.price(stretch, stretch + 1, -stretch), 1);
            all += (stretch == 7 ? 49 : 50) * (stretch + 1);
            due.is("11: up, stretch " + stretch, x.cost(), all);
        }
        x.heat(0, 0, 399);
        due.is("11: down", x.cost(), -50 * 21 - 49 * 7);
        x.heat(0, 50, 49);
        due.is("11: a step below a bound", x.cost(), 1);
        x.heat(0, 50, 51);
        due.is("11: a step above a bound", x.cost(), -1);
        x.heat(0, 51, 49);
        due.is("11: up over a bound", x.cost(), 3);
        due.is("11: most", x.price(0, 100, 100), 1);
        due.is("11: least", x.price(0, -100, -100), 1);
        due.is("11: no undo", x.count(4), 5);
        long before = x.digest();
        due.is("11: stretch -1", x.price(-1, 0, 0), OvenHouse.BAD);
        due.is("11: stretch 8", x.price(8, 0, 0), OvenHouse.BAD);
        due.is("11: stretch far off", x.price(MAX, 0, 0), OvenHouse.BAD);
        due.is("11: UP 101", x.price(0, 101, 0), OvenHouse.BAD);
        due.is("11: UP -101", x.price(0, -101, 0), OvenHouse.BAD);
        due.is("11: DOWN 101", x.price(0, 0, 101), OvenHouse.BAD);
        due.is("11: DOWN -101", x.price(0, 0, -101), OvenHouse.BAD);
        due.is("11: as they were", x.digest(), before);
        due.is("11: undo", x.undo(), 4);
        due.is("11: and prices stay", x.price(1, 2, -1), 1);
        x.heat(0, 51, 49);
        due.is("11: cost after undo", x.cost(), 2 - 100);
    }

    private static void promise12() {
        OvenHouse x = with(1, 1, 2, 2, 3, 3);
        order("12: as they came", x, 0, 1, 2);
        x.swap(0, 2);
        order("12: swapped", x, 2, 1, 0);
        due.is("12: place -1", x.at(-1), OvenHouse.NONE);
        due.is("12: place 40", x.at(40), OvenHouse.NONE);
        due.is("12: place far off", x.at(MAX), OvenHouse.NONE);
        due.is("12: place far below", x.at(MIN), OvenHouse.NONE);
        x.loaf(4, 4);
        order("12: one more", x, 2, 1, 0, 3);
    }

    private static void promise13() {
        OvenHouse x = with(1, 1, 2, 2, 3, 3);
        due.is("13: swap", x.swap(0, 1), 1);
        order("13: two", x, 1, 0, 2);
        due.is("13: by places", x.swap(2, 0), 1);
        order("13: three", x, 2, 0, 1);
        due.is("13: itself", x.swap(1, 1), 1);
        order("13: as it was", x, 2, 0, 1);
        due.is("13: counted for undo", x.count(4), 5);
        due.is("13: no such place", x.swap(0, 3), OvenHouse.BAD);
        due.is("13: no such first", x.swap(3, 0), OvenHouse.BAD);
        due.is("13: -1", x.swap(-1, 0), OvenHouse.BAD);
        due.is("13: second -1", x.swap(0, -1), OvenHouse.BAD);
        due.is("13: far off", x.swap(MAX, MIN), OvenHouse.BAD);
        due.is("13: no loaves", new OvenHouse().swap(0, 0), OvenHouse.BAD);
    }

    private static void promise14() {
        OvenHouse x = with(4, 3, 1, 2, 5, 4, 2, 3, 5, 6);
        due.is("14: END by SHELF", x.rule(), 21);
        order("14: the rule", x, 1, 3, 4, 2, 0);
        due.is("14: its day", x.day(1, 0), 21);
        OvenHouse like = with(9, 4, 3, 3, 7, 4, 3, 9, 8, 0, 0, 0, 9, 4);
        like.swap(0, 6);
        like.rule();
        order("14: like ones", like, 5, 1, 3, 0, 2, 6, 4);
        due.is("14: undone", like.undo(), 4);
        order("14: as ahead", like, 6, 1, 2, 3, 4, 5, 0);
        OvenHouse most = with(100000, 99999, 100000, 100000, 1, 0, 99999, 100000);
        most.rule();
        order("14: long ones", most, 3, 1, 0, 2);
        due.is("14: SHELF, not the law told before", with(1, 9, 1, 1, 1, 1, 9, 1).rule(), 13);
        OvenHouse none = new OvenHouse();
        due.is("14: no loaves", none.rule(), 0);
        due.is("14: counted all the same", none.count(4), 1);
    }

    private static void promise15() {
        OvenHouse x = with(3, 0, 0, 4, 2, 2, 6, 1);
        due.is("15: none yet", x.use(), OvenHouse.NOT);
        due.is("15: least", x.least(1, 0), 11);
        due.is("15: use", x.use(), 1);
        order("15: it is BEST", x, 1, 2, 3, 0);
        due.is("15: again", x.use(), 1);
        x.swap(0, 1);
        x.rule();
        x.heat(0, 1, 1);
        x.price(0, 1, 1);
        x.better(1, 0);
        due.is("15: still", x.use(), 1);
        x.loaf(1, 1);
        due.is("15: a loaf came", x.use(), OvenHouse.NOT);
        due.is("15: but BEST stays told", x.best(0), 1);
        x.least(1, 0);
        x.turn();
        due.is("15: turned", x.use(), OvenHouse.NOT);
        due.is("15: not to be used, told", x.count(3), 0);
        x.least(1, 0);
        due.is("15: to be used, told", x.count(3), 1);
        x.swap(0, 1);
        x.undo();
        due.is("15: undone", x.use(), OvenHouse.NOT);
        x.round();
        due.is("15: by round", x.use(), 1);
        due.is("15: from loaf 0", x.at(0), 0);
        OvenHouse none = new OvenHouse();
        due.is("15: refused undo", none.undo(), OvenHouse.NOT);
        none.least(2, 5);
        due.is("15: undo refused", none.undo(), OvenHouse.NOT);
        due.is("15: of no loaves", none.use(), 1);
        due.is("15: counted", none.count(4), 1);
        sheetsTake();
    }

    private static void sheetsTake() {
        OvenHouse x = with(1, 2);
        x.sheet(0, 2, 1);
        x.least(0, 0);
        x.take(0, 0, 1);
        due.is("15: loaves were taken", x.use(), OvenHouse.NOT);
    }

    private static void promise16() {
        OvenHouse x = with(1, 2, 3, 4, 5, 5);
        x.heat(1, 10, 20);
        x.swap(0, 1);
        due.is("16: turn", x.turn(), 1);
        order("16: turned about", x, 2, 0, 1);
        due.is("16: MIX", x.of(1, 0), 4);
        due.is("16: BAKE", x.of(1, 1), 3);
        due.is("16: FROM", x.of(1, 2), 20);
        due.is("16: TO", x.of(1, 3), 10);
        due.is("16: of the first", x.of(0, 0), 2);
        x.loaf(7, 8);
        x.turn();
        order("16: four", x, 3, 1, 0, 2);
        due.is("16: MIX again", x.of(1, 0), 3);
        x.undo();
        order("16: undone", x, 2, 0, 1, 3);
        due.is("16: MIX undone", x.of(3, 0), 7);
        due.is("16: FROM undone", x.of(1, 2), 20);
        OvenHouse none = new OvenHouse();
        due.is("16: no loaves", none.turn(), 1);
        due.is("16: counted", none.count(4), 1);
    }

    private static void promise17() {
        OvenHouse x = new OvenHouse();
        x.sheet(0, 0, 3);
        x.put(0, 0, 1, 9);
        long[] before = new long[9];
        for (int call = 0; call < 9; call++) {
            before[call] = x.digest();
            change(x, call);
            due.is("17: undone call " + call, x.undo(), Math.min(call, 4));
            due.is("17: as ahead of call " + call, x.digest(), before[call]);
            change(x, call);
        }
        due.is("17: five", x.count(4), 5);
        for (int left = 4; left >= 0; left--) {
            due.is("17: left", x.undo(), left);
            due.is("17: as it was, left " + left, x.digest(), before[4 + left]);
        }
        due.is("17: none", x.undo(), OvenHouse.NOT);
        due.is("17: it changed nothing", x.digest(), before[4]);
        due.is("17: none on a new object", new OvenHouse().undo(), OvenHouse.NOT);
    }

    private static void change(OvenHouse x, int call) {
        switch (call) {
            case 0:
                x.take(0, 0, 3);
                break;
            case 1:
                x.loaf(5, 3);
                break;
            case 2:
                x.heat(3, 1, 2);
                break;
            case 3:
                x.swap(0, 3);
                break;
            case 4:
                x.turn();
                break;
            case 5:
                x.heat(1, 7, 8);
                break;
            case 6:
                due.holds("17: better is of use", x.better(1, 0) > 0);
                break;
            case 7:
                x.least(0, 0);
                x.use();
                break;
            default:
                x.rule();
                break;
        }
    }

    private static void promise17Latest() {
        OvenHouse x = with(1, 1, 2, 2);
        x.better(0, 0);
        x.rule();
        x.swap(0, 0);
        due.is("17: also where nothing came of it", x.count(4), 5);
        x.swap(0, 5);
        x.better(0, 1);
        x.heat(0, 400, 0);
        x.loaf(-1, 0);
        x.use();
        due.is("17: not where refused", x.undo(), 4);
        x.undo();
        x.undo();
        due.is("17: two loaves still", x.count(0), 2);
        due.is("17: a loaf goes", x.undo(), 1);
        due.is("17: one loaf", x.count(0), 1);
        due.is("17: its place is free", x.at(1), OvenHouse.NONE);
        x.loaf(7, 7);
        due.is("17: two more to take back", x.count(4), 2);
        x.undo();
        due.is("17: all go", x.undo(), 0);
        due.is("17: no loaf", x.count(0), 0);
    }
}
