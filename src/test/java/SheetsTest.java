/** Promises 1 to 7: a new object, sheets, and loaves taken from them. */
public final class SheetsTest {
    private static final int MIN = Integer.MIN_VALUE, MAX = Integer.MAX_VALUE;
    private static final Due due = new Due("SheetsTest");

    public static void main(String[] args) {
        promise1();
        promise2();
        promise3();
        promise4();
        promise5();
        promise6();
        promise7();
        promise7Refusals();
        findingsChangeNothing();
        due.finish();
    }

    private static void promise1() {
        OvenHouse x = new OvenHouse();
        for (int what = 0; what <= 5; what++) {
            due.is("1: count " + what, x.count(what), 0);
        }
        for (int s = 0; s < 4; s++) {
            due.is("1: lose " + s, x.lose(s), -11);
        }
        long h = 17;
        for (int i = 0; i < 16; i++) {
            h *= 31;
        }
        due.is("1: digest, prices 0", x.digest(), h);
        due.is("1: use", x.use(), OvenHouse.NOT);
        due.is("1: best", x.best(0), OvenHouse.NONE);
        due.is("1: at", x.at(0), OvenHouse.NONE);
        due.is("1: of", x.of(0, 0), OvenHouse.BAD);
        due.is("1: undo", x.undo(), OvenHouse.NOT);
        due.is("1: rings", x.rings(0), OvenHouse.BAD);
        OvenHouse y = new OvenHouse();
        y.loaf(1, 1);
        y.sheet(0, 0, 1);
        due.is("1: objects share nothing", x.count(0), 0);
        due.is("1: objects share no sheets", x.lose(0), -11);
        due.is("1: NONE", OvenHouse.NONE, -1);
        due.is("1: BAD", OvenHouse.BAD, -2);
        due.is("1: FULL", OvenHouse.FULL, -3);
        due.is("1: SPENT", OvenHouse.SPENT, -4);
        due.is("1: NOT", OvenHouse.NOT, -5);
    }

    private static void promise2() {
        OvenHouse x = new OvenHouse();
        due.is("2: 40 items", x.sheet(3, 2, 40), 40);
        due.is("2: no items", x.sheet(0, 0, 0), 0);
        due.is("2: 41 items", x.sheet(0, 0, 41), OvenHouse.BAD);
        due.is("2: most items", x.sheet(0, 0, MAX), OvenHouse.BAD);
        due.is("2: size below 0", x.sheet(1, 0, -1), -15);
        due.is("2: least size", x.sheet(1, 0, MIN), -15);
        due.is("2: size told", x.count(5), 5);
        due.is("2: sheet 1 is still lost", x.lose(1), -11);
        due.is("2: sheet -1", x.sheet(-1, 0, -1), OvenHouse.BAD);
        due.is("2: sheet 4", x.sheet(4, 0, 1), OvenHouse.BAD);
        due.is("2: sheet far off", x.sheet(MAX, 0, 1), OvenHouse.BAD);
        due.is("2: sheet far below", x.sheet(MIN, 0, 1), OvenHouse.BAD);
        due.is("2: form -1", x.sheet(0, -1, 1), OvenHouse.BAD);
        due.is("2: form 3 ahead of size", x.sheet(0, 3, -1), OvenHouse.BAD);
        due.is("2: BAD is no finding", x.count(5), 1);
        x.put(3, 2, 39, 77);
        due.is("2: a new row", x.sheet(3, 2, 40), 40);
        due.is("2: of zeros", x.get(3, 2, 39), 0);
        due.is("2: of another form", x.sheet(3, 1, 2), 2);
        due.is("2: its form", x.get(3, 1, 1), 0);
        due.is("2: its size", x.put(3, 1, 2, 5), -12);
        due.is("2: a size refused left it", x.sheet(3, 1, -5), -15);
        due.is("2: as it was", x.lose(3), 2);
    }

    private static void promise3() {
        OvenHouse x = new OvenHouse();
        x.sheet(2, 1, 7);
        due.is("3: how many", x.lose(2), 7);
        due.is("3: lost already", x.lose(2), -11);
        due.is("3: a finding", x.count(5), 1);
        x.sheet(0, 0, 0);
        due.is("3: an empty one", x.lose(0), 0);
        due.is("3: lost again", x.lose(0), -11);
        due.is("3: sheet -1", x.lose(-1), OvenHouse.BAD);
        due.is("3: sheet 4", x.lose(4), OvenHouse.BAD);
        due.is("3: sheet far off", x.lose(MAX), OvenHouse.BAD);
    }

    private static void promise4() {
        OvenHouse x = new OvenHouse();
        int[] sizes = {5, 4, 3};
        for (int form = 0; form < 3; form++) {
            x.sheet(form, form, sizes[form]);
        }
        int[] values = {127, 128, 255, 256, -129, 32767, 32768, 65536, 100000, MIN, MAX, -1};
        for (int v : values) {
            due.is("4: a byte", x.put(0, 0, 4, v), 1);
            due.is("4: as a byte " + v, x.get(0, 0, 4), (byte) v);
            due.is("4: a short", x.put(1, 1, 3, v), 1);
            due.is("4: as a short " + v, x.get(1, 1, 3), (short) v);
            due.is("4: an int", x.put(2, 2, 2, v), 1);
            due.is("4: as an int " + v, x.get(2, 2, 2), v);
        }
        due.is("4: its neighbour", x.get(2, 2, 1), 0);
        due.is("4: index behind", x.put(0, 0, 5, 1), -12);
        due.is("4: index below", x.put(0, 0, -1, 1), -12);
        due.is("4: index far off", x.put(0, 0, MAX, 1), -12);
        due.is("4: index far below", x.put(0, 0, MIN, 1), -12);
        due.is("4: cast ahead of index", x.put(0, 1, 5, 1), -13);
        due.is("4: cast told", x.count(5), 3);
        due.is("4: ints are no shorts", x.put(2, 1, 0, 1), -13);
        due.is("4: null ahead of cast", x.put(3, 1, 9, 1), -11);
        due.is("4: form ahead of null", x.put(3, 3, 0, 1), OvenHouse.BAD);
        due.is("4: form -1", x.put(0, -1, 0, 1), OvenHouse.BAD);
        due.is("4: sheet 4", x.put(4, 0, 0, 1), OvenHouse.BAD);
        due.is("4: sheet -1", x.put(-1, 0, 0, 1), OvenHouse.BAD);
        due.is("4: the latest finding", x.count(5), 1);
    }

    private static void promise5() {
        OvenHouse x = new OvenHouse();
        x.sheet(0, 0, 2);
        due.is("5: 0 at first", x.get(0, 0, 1), 0);
        x.put(0, 0, 0, 200);
        due.is("5: an item", x.get(0, 0, 0), -56);
        due.is("5: BAD sheet", x.get(4, 0, 0), MIN);
        due.is("5: BAD sheet below", x.get(-1, 0, 0), MIN);
        due.is("5: BAD form", x.get(0, 3, 0), MIN);
        due.is("5: BAD form below", x.get(0, -1, 0), MIN);
        due.is("5: BAD is no finding", x.count(5), 0);
        due.is("5: index", x.get(0, 0, 2), MIN);
        due.is("5: index told", x.count(5), 2);
        due.is("5: cast", x.get(0, 2, 2), MIN);
        due.is("5: cast told", x.count(5), 3);
        due.is("5: null", x.get(1, 2, -1), MIN);
        due.is("5: null told", x.count(5), 1);
        due.is("5: index below", x.get(0, 0, -1), MIN);
        due.is("5: index below told", x.count(5), 2);
        x.get(0, 0, 0);
        due.is("5: the latest finding stays", x.count(5), 2);
    }

    private static void numbered(OvenHouse x, int s, int form, int n) {
        x.sheet(s, form, n);
        for (int i = 0; i < n; i++) {
            x.put(s, form, i, 10 * s + i + 1);
        }
    }

    private static void hasItems(String what, OvenHouse x, int s, int form, int... want) {
        for (int i = 0; i < want.length; i++) {
            due.is(what + ", item " + i, x.get(s, form, i), want[i]);
        }
    }

    private static void promise6() {
        OvenHouse x = new OvenHouse();
        numbered(x, 0, 1, 5);
        numbered(x, 1, 1, 4);
        due.is("6: to another", x.copy(0, 3, 1, 1, 2), 1);
        hasItems("6: it came", x, 1, 1, 11, 4, 5, 14);
        hasItems("6: it stays", x, 0, 1, 1, 2, 3, 4, 5);
        due.is("6: up in itself", x.copy(0, 0, 0, 1, 4), 1);
        hasItems("6: as they were", x, 0, 1, 1, 1, 2, 3, 4);
        due.is("6: down in itself", x.copy(0, 1, 0, 0, 4), 1);
        hasItems("6: as they were, too", x, 0, 1, 1, 2, 3, 4, 4);
        due.is("6: nothing, at the end", x.copy(0, 5, 1, 4, 0), 1);
        due.is("6: nothing, behind the end", x.copy(0, 6, 1, 4, 0), -12);
        due.is("6: nothing, to behind the end", x.copy(0, 5, 1, 5, 0), -12);
        due.is("6: from below", x.copy(0, -1, 1, 0, 1), -12);
        due.is("6: to below", x.copy(0, 0, 1, -1, 1), -12);
        due.is("6: below 0 items", x.copy(0, 1, 1, 1, -1), -12);
        due.is("6: not so many from", x.copy(0, 4, 1, 0, 2), -12);
        due.is("6: not so many to", x.copy(0, 0, 1, 3, 2), -12);
        due.is("6: numbers that wrap", x.copy(0, MAX, 1, 0, MAX), -12);
        due.is("6: numbers that wrap below", x.copy(0, 1, 1, MIN, MIN), -12);
        due.is("6: index told", x.count(5), 2);
        hasItems("6: it changed nothing", x, 1, 1, 11, 4, 5, 14);
        numbered(x, 2, 2, 5);
        due.is("6: store ahead of index", x.copy(0, 9, 2, 0, 1), -14);
        due.is("6: store told", x.count(5), 4);
        due.is("6: null ahead of store", x.copy(0, 9, 3, 0, 1), -11);
        due.is("6: null from", x.copy(3, 0, 0, 0, 1), -11);
        due.is("6: both null", x.copy(3, 0, 3, 0, 0), -11);
        due.is("6: BAD from", x.copy(4, 0, 3, 0, 1), OvenHouse.BAD);
        due.is("6: BAD from below", x.copy(-1, 0, 3, 0, 1), OvenHouse.BAD);
        due.is("6: BAD to", x.copy(3, 0, 4, 0, 1), OvenHouse.BAD);
        due.is("6: BAD to below", x.copy(3, 0, -1, 0, 1), OvenHouse.BAD);
    }

    private static void promise7() {
        OvenHouse x = new OvenHouse();
        numbered(x, 0, 0, 3);
        x.sheet(1, 2, 4);
        x.put(1, 2, 0, 100000);
        x.put(1, 2, 1, 50);
        x.put(1, 2, 3, 100001);
        due.is("7: two", x.take(0, 1, 2), 2);
        due.is("7: MIX", x.of(0, 0), 1);
        due.is("7: BAKE", x.of(0, 1), 100000);
        due.is("7: MIX of the second", x.of(1, 0), 2);
        due.is("7: BAKE of the second", x.of(1, 1), 50);
        due.is("7: items behind n do not matter", x.take(0, 1, 3), 5);
        due.is("7: from the first item", x.of(2, 0), 1);
        due.is("7: it stands last", x.at(4), 4);
        due.is("7: its heat", x.of(4, 2), 0);
        due.is("7: one sheet for both", x.take(0, 0, 3), 8);
        due.is("7: MIX by it", x.of(7, 0), 3);
        due.is("7: BAKE by it", x.of(7, 1), 3);
        due.is("7: undone whole", x.undo(), 2);
        due.is("7: five again", x.count(0), 5);
        x.sheet(2, 1, 40);
        due.is("7: to 40 none more fit", x.take(2, 2, 36), OvenHouse.FULL);
        due.is("7: to 40", x.take(2, 2, 35), 40);
        due.is("7: one more", x.take(2, 2, 1), OvenHouse.FULL);
        OvenHouse y = new OvenHouse();
        y.sheet(0, 0, 40);
        due.is("7: 40 at once", y.take(0, 0, 40), 40);
    }

    private static void promise7Refusals() {
        OvenHouse x = new OvenHouse();
        numbered(x, 0, 0, 3);
        x.sheet(1, 2, 4);
        x.put(1, 2, 3, 100001);
        x.put(0, 0, 2, 200);
        due.is("7: BAD first sheet", x.take(4, 3, 1), OvenHouse.BAD);
        due.is("7: BAD first sheet below", x.take(-1, 3, 1), OvenHouse.BAD);
        due.is("7: BAD second sheet", x.take(3, 4, 1), OvenHouse.BAD);
        due.is("7: BAD second sheet below", x.take(3, -1, 1), OvenHouse.BAD);
        due.is("7: none", x.take(3, 3, 0), OvenHouse.BAD);
        due.is("7: below none", x.take(3, 3, MIN), OvenHouse.BAD);
        due.is("7: 41", x.take(3, 3, 41), OvenHouse.BAD);
        due.is("7: very many", x.take(3, 3, MAX), OvenHouse.BAD);
        due.is("7: first is lost", x.take(3, 0, 40), -11);
        due.is("7: second is lost", x.take(0, 3, 40), -11);
        due.is("7: first has not so many", x.take(0, 1, 4), -12);
        due.is("7: second has not so many", x.take(1, 0, 4), -12);
        due.is("7: index told", x.count(5), 2);
        due.is("7: MIX below 0", x.take(0, 1, 3), OvenHouse.BAD);
        due.is("7: BAKE below 0", x.take(1, 0, 3), OvenHouse.BAD);
        due.is("7: above 100000", x.take(1, 1, 4), OvenHouse.BAD);
        x.sheet(2, 1, 2);
        x.put(2, 1, 0, -1);
        due.is("7: the first below 0", x.take(2, 0, 1), OvenHouse.BAD);
        due.is("7: the first BAKE below 0", x.take(0, 2, 1), OvenHouse.BAD);
        due.is("7: none came", x.count(0), 0);
        due.is("7: nothing to undo", x.count(4), 0);
        x.least(1, 0);
        x.take(0, 1, 3);
        due.is("7: refused, BEST stays", x.count(3), 1);
        x.take(0, 1, 1);
        due.is("7: BEST is no more", x.count(3), 0);
        for (int i = 1; i < 39; i++) {
            x.loaf(1, 1);
        }
        due.is("7: FULL ahead of NULL", x.take(3, 3, 2), OvenHouse.FULL);
        due.is("7: NULL below FULL", x.take(3, 3, 1), -11);
    }

    private static void findingsChangeNothing() {
        OvenHouse x = new OvenHouse();
        numbered(x, 0, 0, 3);
        x.loaf(1, 2);
        long before = x.digest();
        x.put(0, 0, 3, 1);
        x.put(0, 1, 0, 9);
        x.copy(0, 0, 0, 1, 3);
        x.take(0, 0, 9);
        x.sheet(0, 0, -1);
        hasItems("4: after findings", x, 0, 0, 1, 2, 3);
        due.is("7: digest after findings", x.digest(), before);
        due.is("7: undo after findings", x.count(4), 1);
        x.undo();
        due.is("31: undo leaves the finding", x.count(5), 5);
    }
}
