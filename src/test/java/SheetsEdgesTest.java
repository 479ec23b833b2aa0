/** The boundary cases that the promises 1 to 7 name: a new object, sheets, loaves taken from them. */
public final class SheetsEdgesTest {
    private static final int BAD = OvenHouse.BAD, FULL = OvenHouse.FULL, NONE = OvenHouse.NONE, NOT = OvenHouse.NOT;
    private static final int MIN = Edges.MIN, MAX = Edges.MAX;
    private static final Edges edges = new Edges("SheetsEdgesTest");

    public static void main(String[] args) {
        newObject();
        sheet();
        lose();
        put();
        lowestBits();
        get();
        copy();
        copyInItself();
        take();
        takeItems();
        edges.finish();
    }

    private static void newObject() {
        edges.edge("1: no LOAVES", due -> {
            OvenHouse x = new OvenHouse();
            due.is("count(0)", x.count(0), 0);
            due.is("count(1)", x.count(1), 0);
            due.is("count(2)", x.count(2), 0);
            due.is("at(0)", x.at(0), NONE);
            due.is("of(0, 0)", x.of(0, 0), BAD);
            due.is("heat(0, 0, 0)", x.heat(0, 0, 0), BAD);
            due.is("swap(0, 0)", x.swap(0, 0), BAD);
        });
        edges.edge("1: prices are 0", due -> {
            long h = 17;
            for (int i = 0; i < 16; i++) {
                h = 31 * h;
            }
            due.is("digest()", new OvenHouse().digest(), h);
        });
        edges.edge("1: prices together are not below 0", due -> {
            OvenHouse x = Edges.heated(399, 0);
            due.is("round()", x.round(), 0);
        });
        edges.edge("1: all SHEETS are LOST", due -> {
            OvenHouse x = new OvenHouse();
            for (int s = 0; s < 4; s++) {
                due.is("lose(" + s + ")", x.lose(s), Edges.NULL);
            }
        });
        edges.edge("1: no BEST", due -> {
            OvenHouse x = new OvenHouse();
            due.is("use()", x.use(), NOT);
            due.is("best(0)", x.best(0), NONE);
            due.is("count(3)", x.count(3), 0);
        });
        edges.edge("1: no calls to take back", due -> {
            OvenHouse x = new OvenHouse();
            due.is("undo()", x.undo(), NOT);
            due.is("count(4)", x.count(4), 0);
        });
        edges.edge("1: no FINDING", due -> due.is("count(5)", new OvenHouse().count(5), 0));
        edges.edge("1: no RINGS", due -> {
            OvenHouse x = new OvenHouse();
            for (int what = -1; what <= 4; what++) {
                due.is("rings(" + what + ")", x.rings(what), BAD);
            }
        });
    }

    private static void sheet() {
        edges.edge("2: n is 0 at least", due -> due.is("sheet(0, 0, 0)", new OvenHouse().sheet(0, 0, 0), 0));
        edges.edge("2: n is 40 at most", due -> due.is("sheet(0, 0, 40)", new OvenHouse().sheet(0, 0, 40), 40));
        edges.edge("2: BAD: above 40", due -> {
            OvenHouse x = new OvenHouse();
            due.is("sheet(0, 0, 41)", x.sheet(0, 0, 41), BAD);
            due.is("sheet(0, 0, most)", x.sheet(0, 0, MAX), BAD);
            due.is("count(5)", x.count(5), 0);
            due.is("lose(0)", x.lose(0), Edges.NULL);
        });
        edges.edge("2: SIZE: below 0", due -> {
            OvenHouse x = new OvenHouse();
            due.is("sheet(0, 0, -1)", x.sheet(0, 0, -1), Edges.SIZE);
            due.is("sheet(0, 0, least)", x.sheet(0, 0, MIN), Edges.SIZE);
            due.is("count(5)", x.count(5), 5);
            due.is("lose(0)", x.lose(0), Edges.NULL);
        });
        edges.edge("2: BAD: a SHEET beyond 0 .. 3", due -> {
            OvenHouse x = new OvenHouse();
            for (int s : new int[] {-1, 4, MIN, MAX}) {
                due.is("sheet(" + s + ", 0, 1)", x.sheet(s, 0, 1), BAD);
            }
        });
        edges.edge("2: BAD: a FORM beyond 0 .. 2", due -> {
            OvenHouse x = new OvenHouse();
            for (int form : new int[] {-1, 3, MIN, MAX}) {
                due.is("sheet(0, " + form + ", 1)", x.sheet(0, form, 1), BAD);
            }
            due.is("lose(0)", x.lose(0), Edges.NULL);
        });
        edges.edge("2: BAD comes ahead of SIZE: SHEET", due -> {
            OvenHouse x = new OvenHouse();
            due.is("sheet(-1, 0, -1)", x.sheet(-1, 0, -1), BAD);
            due.is("sheet(4, 0, -1)", x.sheet(4, 0, -1), BAD);
            due.is("count(5)", x.count(5), 0);
        });
        edges.edge("2: BAD comes ahead of SIZE: FORM", due -> {
            OvenHouse x = new OvenHouse();
            due.is("sheet(0, -1, -1)", x.sheet(0, -1, -1), BAD);
            due.is("sheet(0, 3, -1)", x.sheet(0, 3, -1), BAD);
            due.is("count(5)", x.count(5), 0);
        });
        edges.edge("2: a new row: items are 0 again", due -> {
            OvenHouse x = new OvenHouse();
            Edges.lay(x, 0, 2, 7, 8, 9);
            due.is("sheet(0, 2, 3)", x.sheet(0, 2, 3), 3);
            Edges.items(due, x, 0, 2, 0, 0, 0);
        });
        edges.edge("2: a new row: items are 0 again where a lesser one lay between", due -> {
            OvenHouse x = new OvenHouse();
            Edges.lay(x, 0, 2, 7, 8, 9);
            x.sheet(0, 2, 1);
            x.sheet(0, 2, 3);
            Edges.items(due, x, 0, 2, 0, 0, 0);
        });
        edges.edge("2: a new row: another FORM and size", due -> {
            OvenHouse x = new OvenHouse();
            Edges.lay(x, 0, 2, 7, 8, 9);
            x.sheet(0, 1, 2);
            due.is("put(0, 2, 0, 1)", x.put(0, 2, 0, 1), Edges.CAST);
            due.is("put(0, 1, 2, 1)", x.put(0, 1, 2, 1), Edges.INDEX);
            Edges.items(due, x, 0, 1, 0, 0);
        });
        edges.edge("2: a new row of 0 items has none of those before", due -> {
            OvenHouse x = new OvenHouse();
            Edges.lay(x, 0, 2, 7, 8, 9);
            due.is("sheet(0, 2, 0)", x.sheet(0, 2, 0), 0);
            due.is("put(0, 2, 0, 1)", x.put(0, 2, 0, 1), Edges.INDEX);
        });
        edges.edge("2: a refused one leaves the SHEET as it was", due -> {
            OvenHouse x = new OvenHouse();
            Edges.lay(x, 0, 2, 7, 8, 9);
            x.sheet(0, 1, -1);
            x.sheet(0, 1, 41);
            x.sheet(0, 3, 2);
            Edges.items(due, x, 0, 2, 7, 8, 9);
            due.is("lose(0)", x.lose(0), 3);
        });
    }

    private static void lose() {
        edges.edge("3: how many items it had: 0", due -> {
            OvenHouse x = new OvenHouse();
            x.sheet(0, 1, 0);
            due.is("lose(0)", x.lose(0), 0);
        });
        edges.edge("3: how many items it had: 40", due -> {
            OvenHouse x = new OvenHouse();
            x.sheet(0, 1, 40);
            due.is("lose(0)", x.lose(0), 40);
        });
        edges.edge("3: NULL: it is LOST already", due -> {
            OvenHouse x = new OvenHouse();
            x.sheet(3, 1, 4);
            x.lose(3);
            due.is("lose(3)", x.lose(3), Edges.NULL);
            due.is("count(5)", x.count(5), 1);
        });
        edges.edge("3: what was LOST is LOST to every call", due -> {
            OvenHouse x = new OvenHouse();
            x.sheet(1, 0, 4);
            x.sheet(0, 0, 4);
            x.lose(1);
            due.is("put(1, 0, 0, 1)", x.put(1, 0, 0, 1), Edges.NULL);
            due.is("get(1, 0, 0)", x.get(1, 0, 0), MIN);
            due.is("copy(1, 0, 0, 0, 1)", x.copy(1, 0, 0, 0, 1), Edges.NULL);
            due.is("take(0, 1, 1)", x.take(0, 1, 1), Edges.NULL);
            due.is("the other is not: lose(0)", x.lose(0), 4);
        });
        edges.edge("3: items do not come back with a new SHEET", due -> {
            OvenHouse x = new OvenHouse();
            Edges.lay(x, 1, 0, 5, 6);
            x.lose(1);
            x.sheet(1, 0, 2);
            Edges.items(due, x, 1, 0, 0, 0);
        });
        edges.edge("3: BAD: a SHEET beyond 0 .. 3", due -> {
            OvenHouse x = new OvenHouse();
            for (int s : new int[] {-1, 4, MIN, MAX}) {
                due.is("lose(" + s + ")", x.lose(s), BAD);
            }
            due.is("count(5)", x.count(5), 0);
        });
    }

    private static OvenHouse three(int form) {
        OvenHouse x = new OvenHouse();
        Edges.lay(x, 1, form, 11, 12, 13);
        return x;
    }

    private static void put() {
        for (int form = 0; form < 3; form++) {
            int of = form;
            edges.edge("4: the first and the last item, FORM " + form, due -> {
                OvenHouse x = three(of);
                due.is("put 0", x.put(1, of, 0, 5), 1);
                due.is("put 2", x.put(1, of, 2, 6), 1);
                Edges.items(due, x, 1, of, 5, 12, 6);
            });
            edges.edge("4: INDEX: the item behind the last, FORM " + form, due -> {
                OvenHouse x = three(of);
                due.is("put 3", x.put(1, of, 3, 5), Edges.INDEX);
                due.is("put most", x.put(1, of, MAX, 5), Edges.INDEX);
                due.is("count(5)", x.count(5), 2);
                Edges.items(due, x, 1, of, 11, 12, 13);
            });
            edges.edge("4: INDEX: below 0, FORM " + form, due -> {
                OvenHouse x = three(of);
                due.is("put -1", x.put(1, of, -1, 5), Edges.INDEX);
                due.is("put least", x.put(1, of, MIN, 5), Edges.INDEX);
                due.is("count(5)", x.count(5), 2);
                Edges.items(due, x, 1, of, 11, 12, 13);
            });
            for (int other = 0; other < 3; other++) {
                int as = other;
                if (other != form) {
                    edges.edge("4: CAST: FORM " + form + " treated as " + other, due -> {
                        OvenHouse x = three(of);
                        due.is("put", x.put(1, as, 0, 5), Edges.CAST);
                        due.is("count(5)", x.count(5), 3);
                        Edges.items(due, x, 1, of, 11, 12, 13);
                    });
                }
            }
        }
        edges.edge("4: INDEX: 40 of a SHEET of 40 items", due -> {
            OvenHouse x = new OvenHouse();
            x.sheet(0, 0, 40);
            due.is("put 39", x.put(0, 0, 39, 5), 1);
            due.is("put 40", x.put(0, 0, 40, 5), Edges.INDEX);
        });
        edges.edge("4: INDEX: 0 of a SHEET of 0 items", due -> {
            OvenHouse x = new OvenHouse();
            x.sheet(0, 0, 0);
            due.is("put 0", x.put(0, 0, 0, 5), Edges.INDEX);
        });
        edges.edge("4: NULL", due -> {
            OvenHouse x = new OvenHouse();
            due.is("put(2, 0, 0, 1)", x.put(2, 0, 0, 1), Edges.NULL);
            due.is("count(5)", x.count(5), 1);
        });
        edges.edge("4: BAD comes ahead of NULL: FORM", due -> {
            OvenHouse x = new OvenHouse();
            due.is("put(2, 3, 0, 1)", x.put(2, 3, 0, 1), BAD);
            due.is("put(2, -1, 0, 1)", x.put(2, -1, 0, 1), BAD);
            due.is("count(5)", x.count(5), 0);
        });
        edges.edge("4: BAD: a SHEET beyond 0 .. 3", due -> {
            OvenHouse x = new OvenHouse();
            for (int s : new int[] {-1, 4, MIN, MAX}) {
                due.is("put(" + s + ", 0, 0, 1)", x.put(s, 0, 0, 1), BAD);
            }
        });
        edges.edge("4: BAD: a FORM beyond 0 .. 2", due -> {
            OvenHouse x = three(0);
            for (int form : new int[] {-1, 3, MIN, MAX}) {
                due.is("put(1, " + form + ", 0, 1)", x.put(1, form, 0, 1), BAD);
            }
            due.is("count(5)", x.count(5), 0);
        });
        edges.edge("4: NULL comes ahead of INDEX", due ->
            due.is("put(2, 0, -1, 1)", new OvenHouse().put(2, 0, -1, 1), Edges.NULL));
        edges.edge("4: NULL comes ahead of CAST, by what the SHEET was", due -> {
            OvenHouse x = three(2);
            x.lose(1);
            due.is("put(1, 0, 0, 1)", x.put(1, 0, 0, 1), Edges.NULL);
        });
        edges.edge("4: CAST comes ahead of INDEX", due -> {
            OvenHouse x = three(2);
            due.is("put(1, 0, 3, 1)", x.put(1, 0, 3, 1), Edges.CAST);
            due.is("put(1, 1, -1, 1)", x.put(1, 1, -1, 1), Edges.CAST);
        });
    }

    private static void bits(String sentence, int form, int v, int want) {
        edges.edge("4: the lowest bits that it has: " + sentence, due -> {
            OvenHouse x = three(form);
            due.is("put " + v, x.put(1, form, 1, v), 1);
            Edges.items(due, x, 1, form, 11, want, 13);
        });
    }

    private static void lowestBits() {
        bits("the greatest byte", 0, 127, 127);
        bits("one above the greatest byte", 0, 128, -128);
        bits("the least byte", 0, -128, -128);
        bits("one below the least byte", 0, -129, 127);
        bits("255 as a byte", 0, 255, -1);
        bits("256 as a byte", 0, 256, 0);
        bits("a short as a byte", 0, 0x1234, 0x34);
        bits("the greatest int as a byte", 0, MAX, -1);
        bits("the least int as a byte", 0, MIN, 0);
        bits("the greatest short", 1, 32767, 32767);
        bits("one above the greatest short", 1, 32768, -32768);
        bits("the least short", 1, -32768, -32768);
        bits("one below the least short", 1, -32769, 32767);
        bits("65535 as a short", 1, 65535, -1);
        bits("65536 as a short", 1, 65536, 0);
        bits("128 is a short", 1, 128, 128);
        bits("an int as a short", 1, 0x123456, 0x3456);
        bits("the greatest int as a short", 1, MAX, -1);
        bits("the least int as a short", 1, MIN, 0);
        bits("the greatest int", 2, MAX, MAX);
        bits("the least int", 2, MIN, MIN);
        bits("32768 is an int", 2, 32768, 32768);
        bits("-1 is an int", 2, -1, -1);
    }

    private static void got(String sentence, OvenHouse x, int s, int form, int i, int number) {
        edges.edge("5: " + sentence, due -> {
            due.is("get(" + s + ", " + form + ", " + i + ")", x.get(s, form, i), MIN);
            due.is("count(5)", x.count(5), number);
        });
    }

    private static void get() {
        edges.edge("5: the first and the last of 40 items", due -> {
            OvenHouse x = new OvenHouse();
            x.sheet(0, 1, 40);
            x.put(0, 1, 0, 5);
            x.put(0, 1, 39, 6);
            due.is("get 0", x.get(0, 1, 0), 5);
            due.is("get 39", x.get(0, 1, 39), 6);
        });
        got("BAD: a SHEET of -1", three(0), -1, 0, 0, 0);
        got("BAD: a SHEET of 4", three(0), 4, 0, 0, 0);
        got("BAD: the least SHEET", three(0), MIN, 0, 0, 0);
        got("BAD: the greatest SHEET", three(0), MAX, 0, 0, 0);
        got("BAD: a FORM of -1", three(0), 1, -1, 0, 0);
        got("BAD: a FORM of 3", three(0), 1, 3, 0, 0);
        got("NULL", three(0), 0, 0, 0, 1);
        got("CAST", three(0), 1, 1, 0, 3);
        got("CAST, an int as a byte", three(2), 1, 0, 0, 3);
        OvenHouse none = new OvenHouse();
        none.sheet(1, 0, 0);
        got("INDEX of a SHEET of 0 items", none, 1, 0, 0, 2);
        OvenHouse forty = new OvenHouse();
        forty.sheet(1, 0, 40);
        got("INDEX 40 of a SHEET of 40 items", forty, 1, 0, 40, 2);
        OvenHouse lost = three(2);
        lost.lose(1);
        got("NULL of a SHEET that was LOST", lost, 1, 2, 0, 1);
        got("INDEX behind the last", three(0), 1, 0, 3, 2);
        got("INDEX below 0", three(0), 1, 0, -1, 2);
        got("INDEX, the greatest", three(0), 1, 0, MAX, 2);
        got("INDEX, the least", three(0), 1, 0, MIN, 2);
        got("BAD comes ahead of NULL: FORM", three(0), 0, 3, 0, 0);
        got("BAD comes ahead of INDEX: SHEET", three(0), 4, 0, 9, 0);
        got("NULL comes ahead of INDEX", three(0), 0, 0, -1, 1);
        got("CAST comes ahead of INDEX", three(0), 1, 2, 3, 3);
        edges.edge("5: an item that is the least int is no FINDING", due -> {
            OvenHouse x = three(2);
            x.put(1, 2, 1, MIN);
            due.is("get(1, 2, 1)", x.get(1, 2, 1), MIN);
            due.is("count(5)", x.count(5), 0);
        });
    }

    private static OvenHouse two() {
        OvenHouse x = new OvenHouse();
        Edges.lay(x, 0, 1, 1, 2, 3, 4);
        Edges.lay(x, 1, 1, 11, 12, 13);
        return x;
    }

    private static void copied(String sentence, int i, int j, int n, int answer, int... want) {
        edges.edge("6: " + sentence, due -> {
            OvenHouse x = two();
            due.is("copy(0, " + i + ", 1, " + j + ", " + n + ")", x.copy(0, i, 1, j, n), answer);
            due.is("count(5)", x.count(5), answer == 1 ? 0 : 2);
            Edges.items(due, x, 1, 1, want);
            Edges.items(due, x, 0, 1, 1, 2, 3, 4);
        });
    }

    private static void copy() {
        copied("all of t", 0, 0, 3, 1, 1, 2, 3);
        copied("the last ones of s", 1, 0, 3, 1, 2, 3, 4);
        copied("the last item of both", 3, 2, 1, 1, 11, 12, 4);
        copied("none, from and to the first", 0, 0, 0, 1, 11, 12, 13);
        copied("none, from and to behind the last", 4, 3, 0, 1, 11, 12, 13);
        copied("INDEX: none, from one behind that", 5, 3, 0, Edges.INDEX, 11, 12, 13);
        copied("INDEX: none, to one behind that", 4, 4, 0, Edges.INDEX, 11, 12, 13);
        copied("INDEX: i below 0", -1, 0, 1, Edges.INDEX, 11, 12, 13);
        copied("INDEX: i below 0, none", -1, 0, 0, Edges.INDEX, 11, 12, 13);
        copied("INDEX: j below 0", 0, -1, 1, Edges.INDEX, 11, 12, 13);
        copied("INDEX: j below 0, none", 0, -1, 0, Edges.INDEX, 11, 12, 13);
        copied("INDEX: n below 0", 0, 0, -1, Edges.INDEX, 11, 12, 13);
        copied("INDEX: n below 0, from behind the last", 4, 3, -1, Edges.INDEX, 11, 12, 13);
        copied("INDEX: s has not so many", 2, 0, 3, Edges.INDEX, 11, 12, 13);
        copied("INDEX: t has not so many", 0, 1, 3, Edges.INDEX, 11, 12, 13);
        copied("INDEX: t has one too few", 0, 0, 4, Edges.INDEX, 11, 12, 13);
        copied("INDEX: i and n wrap", MAX, 0, 2, Edges.INDEX, 11, 12, 13);
        copied("INDEX: j and n wrap", 0, MAX, 2, Edges.INDEX, 11, 12, 13);
        copied("INDEX: n is the greatest", 1, 1, MAX, Edges.INDEX, 11, 12, 13);
        copied("INDEX: n is the least", 0, 0, MIN, Edges.INDEX, 11, 12, 13);
        copied("INDEX: i is the least", MIN, 0, 1, Edges.INDEX, 11, 12, 13);
        copied("INDEX: j is the least", 0, MIN, 1, Edges.INDEX, 11, 12, 13);
        edges.edge("6: 40 items", due -> {
            OvenHouse x = new OvenHouse();
            x.sheet(0, 0, 40);
            x.sheet(1, 0, 40);
            x.put(0, 0, 39, 7);
            due.is("copy(0, 0, 1, 0, 40)", x.copy(0, 0, 1, 0, 40), 1);
            due.is("get(1, 0, 39)", x.get(1, 0, 39), 7);
            due.is("copy(0, 0, 1, 0, 41)", x.copy(0, 0, 1, 0, 41), Edges.INDEX);
        });
        edges.edge("6: none, between SHEETS of 0 items", due -> {
            OvenHouse x = new OvenHouse();
            x.sheet(0, 0, 0);
            x.sheet(1, 0, 0);
            due.is("copy(0, 0, 1, 0, 0)", x.copy(0, 0, 1, 0, 0), 1);
            due.is("copy(0, 0, 1, 0, 1)", x.copy(0, 0, 1, 0, 1), Edges.INDEX);
        });
        edges.edge("6: NULL: s", due -> due.is("copy(2, 0, 0, 0, 1)", two().copy(2, 0, 0, 0, 1), Edges.NULL));
        edges.edge("6: NULL: t", due -> due.is("copy(0, 0, 2, 0, 1)", two().copy(0, 0, 2, 0, 1), Edges.NULL));
        edges.edge("6: NULL: s is t", due -> due.is("copy(2, 0, 2, 0, 0)", two().copy(2, 0, 2, 0, 0), Edges.NULL));
        for (int form = 0; form < 9; form++) {
            int of = form / 3;
            int to = form % 3;
            if (of != to) {
                edges.edge("6: STORE: FORM " + of + " to FORM " + to, due -> {
                    OvenHouse x = new OvenHouse();
                    Edges.lay(x, 0, of, 1, 2);
                    Edges.lay(x, 1, to, 11, 12);
                    due.is("copy(0, 0, 1, 0, 1)", x.copy(0, 0, 1, 0, 1), Edges.STORE);
                    due.is("count(5)", x.count(5), 4);
                    Edges.items(due, x, 1, to, 11, 12);
                });
            }
        }
        edges.edge("6: STORE: also where none is to come", due -> {
            OvenHouse x = two();
            x.sheet(2, 2, 1);
            due.is("copy(0, 0, 2, 0, 0)", x.copy(0, 0, 2, 0, 0), Edges.STORE);
        });
        edges.edge("6: BAD: SHEETS beyond 0 .. 3", due -> {
            OvenHouse x = two();
            for (int s : new int[] {-1, 4, MIN, MAX}) {
                due.is("copy(" + s + ", 0, 1, 0, 1)", x.copy(s, 0, 1, 0, 1), BAD);
                due.is("copy(0, 0, " + s + ", 0, 1)", x.copy(0, 0, s, 0, 1), BAD);
            }
            due.is("count(5)", x.count(5), 0);
        });
        edges.edge("6: BAD comes ahead of NULL", due -> {
            OvenHouse x = two();
            due.is("copy(2, 0, 4, 0, 1)", x.copy(2, 0, 4, 0, 1), BAD);
            due.is("copy(-1, 0, 2, 0, 1)", x.copy(-1, 0, 2, 0, 1), BAD);
        });
        edges.edge("6: NULL comes ahead of STORE", due -> {
            OvenHouse x = two();
            x.sheet(2, 2, 3);
            x.lose(2);
            due.is("copy(2, 0, 1, 0, 1)", x.copy(2, 0, 1, 0, 1), Edges.NULL);
            due.is("copy(1, 0, 2, 0, 1)", x.copy(1, 0, 2, 0, 1), Edges.NULL);
        });
        edges.edge("6: NULL comes ahead of INDEX", due -> {
            OvenHouse x = two();
            due.is("copy(0, -1, 2, 0, 1)", x.copy(0, -1, 2, 0, 1), Edges.NULL);
            due.is("copy(2, 0, 0, 0, -1)", x.copy(2, 0, 0, 0, -1), Edges.NULL);
        });
        edges.edge("6: STORE comes ahead of INDEX", due -> {
            OvenHouse x = two();
            x.sheet(2, 2, 1);
            due.is("copy(0, -1, 2, 0, 1)", x.copy(0, -1, 2, 0, 1), Edges.STORE);
            due.is("copy(0, 0, 2, 0, 2)", x.copy(0, 0, 2, 0, 2), Edges.STORE);
        });
    }

    private static void inItself(String sentence, int i, int j, int n, int... want) {
        for (int form = 0; form < 3; form++) {
            int of = form;
            edges.edge("6: perhaps s, as they were: " + sentence + ", FORM " + form, due -> {
                OvenHouse x = new OvenHouse();
                Edges.lay(x, 3, of, 1, 2, 3, 4);
                due.is("copy(3, " + i + ", 3, " + j + ", " + n + ")", x.copy(3, i, 3, j, n), 1);
                Edges.items(due, x, 3, of, want);
            });
        }
    }

    private static void copyInItself() {
        inItself("one place up", 0, 1, 3, 1, 1, 2, 3);
        inItself("one place down", 1, 0, 3, 2, 3, 4, 4);
        inItself("onto themselves", 0, 0, 4, 1, 2, 3, 4);
        inItself("apart", 0, 2, 2, 1, 2, 1, 2);
    }

    private static void take() {
        edges.edge("7: n is 1 at least", due -> {
            OvenHouse x = two();
            due.is("take(0, 1, 1)", x.take(0, 1, 1), 1);
            due.is("of(0, 0)", x.of(0, 0), 1);
            due.is("of(0, 1)", x.of(0, 1), 11);
        });
        edges.edge("7: BAD: n is 0 or below", due -> {
            OvenHouse x = two();
            for (int n : new int[] {0, -1, MIN}) {
                due.is("take(0, 1, " + n + ")", x.take(0, 1, n), BAD);
            }
            due.is("count(0)", x.count(0), 0);
        });
        edges.edge("7: n is 40 at most", due -> {
            OvenHouse x = new OvenHouse();
            x.sheet(0, 2, 40);
            x.put(0, 2, 39, 100000);
            due.is("take(0, 0, 40)", x.take(0, 0, 40), 40);
            due.is("of(39, 1)", x.of(39, 1), 100000);
            due.is("at(39)", x.at(39), 39);
        });
        edges.edge("7: BAD: n is above 40, with no LOAVES and with 40", due -> {
            OvenHouse x = new OvenHouse();
            x.sheet(0, 2, 40);
            due.is("take(0, 0, 41)", x.take(0, 0, 41), BAD);
            due.is("take(0, 0, most)", x.take(0, 0, MAX), BAD);
            x.take(0, 0, 40);
            due.is("take(0, 0, 41)", x.take(0, 0, 41), BAD);
            due.is("take(0, 0, most)", x.take(0, 0, MAX), BAD);
        });
        edges.edge("7: how many there are, up to 40", due -> {
            OvenHouse x = Edges.alike(37, 1, 1);
            Edges.lay(x, 0, 0, 1, 2, 3, 4);
            due.is("take(0, 0, 3)", x.take(0, 0, 3), 40);
            due.is("of(39, 0)", x.of(39, 0), 3);
        });
        edges.edge("7: FULL: one more than 40", due -> {
            OvenHouse x = Edges.alike(37, 1, 1);
            Edges.lay(x, 0, 0, 1, 2, 3, 4);
            due.is("take(0, 0, 4)", x.take(0, 0, 4), FULL);
            due.is("count(0)", x.count(0), 37);
            due.is("count(5)", x.count(5), 0);
        });
        edges.edge("7: FULL: there is one and 40 are to come", due -> {
            OvenHouse x = Edges.with(1, 1);
            x.sheet(0, 0, 40);
            due.is("take(0, 0, 40)", x.take(0, 0, 40), FULL);
            due.is("take(0, 0, 39)", x.take(0, 0, 39), 40);
        });
        edges.edge("7: FULL: there are 40 and one is to come", due -> {
            OvenHouse x = Edges.alike(40, 1, 1);
            Edges.lay(x, 0, 0, 1);
            due.is("take(0, 0, 1)", x.take(0, 0, 1), FULL);
        });
        edges.edge("7: NULL: s", due -> {
            OvenHouse x = two();
            due.is("take(2, 1, 1)", x.take(2, 1, 1), Edges.NULL);
            due.is("count(5)", x.count(5), 1);
        });
        edges.edge("7: NULL: t", due -> {
            OvenHouse x = two();
            due.is("take(0, 2, 1)", x.take(0, 2, 1), Edges.NULL);
            due.is("count(5)", x.count(5), 1);
        });
        edges.edge("7: INDEX: s has one too few", due -> {
            OvenHouse x = two();
            due.is("take(1, 0, 4)", x.take(1, 0, 4), Edges.INDEX);
            due.is("count(5)", x.count(5), 2);
        });
        edges.edge("7: INDEX: t has one too few", due -> {
            OvenHouse x = two();
            due.is("take(0, 1, 4)", x.take(0, 1, 4), Edges.INDEX);
            due.is("count(5)", x.count(5), 2);
        });
        edges.edge("7: s and t have just so many", due -> {
            OvenHouse x = two();
            due.is("take(0, 1, 3)", x.take(0, 1, 3), 3);
            due.is("take(0, 0, 4)", x.take(0, 0, 4), 7);
        });
        edges.edge("7: BAD: SHEETS beyond 0 .. 3", due -> {
            OvenHouse x = two();
            for (int s : new int[] {-1, 4, MIN, MAX}) {
                due.is("take(" + s + ", 1, 1)", x.take(s, 1, 1), BAD);
                due.is("take(0, " + s + ", 1)", x.take(0, s, 1), BAD);
            }
        });
        edges.edge("7: BAD of a SHEET comes ahead of FULL", due -> {
            OvenHouse x = Edges.alike(40, 1, 1);
            due.is("take(4, 0, 1)", x.take(4, 0, 1), BAD);
            due.is("take(0, -1, 1)", x.take(0, -1, 1), BAD);
        });
        edges.edge("7: BAD of n comes ahead of FULL", due -> {
            OvenHouse x = Edges.alike(40, 1, 1);
            due.is("take(0, 0, 0)", x.take(0, 0, 0), BAD);
            due.is("take(0, 0, 41)", x.take(0, 0, 41), BAD);
        });
        edges.edge("7: BAD of n comes ahead of NULL", due -> {
            OvenHouse x = new OvenHouse();
            due.is("take(0, 0, 0)", x.take(0, 0, 0), BAD);
            due.is("take(0, 0, 41)", x.take(0, 0, 41), BAD);
            due.is("count(5)", x.count(5), 0);
        });
        edges.edge("7: FULL comes ahead of NULL", due -> {
            OvenHouse x = Edges.alike(40, 1, 1);
            due.is("take(0, 0, 1)", x.take(0, 0, 1), FULL);
            due.is("count(5)", x.count(5), 0);
        });
        edges.edge("7: FULL comes ahead of INDEX", due -> {
            OvenHouse x = Edges.alike(40, 1, 1);
            x.sheet(0, 0, 0);
            due.is("take(0, 0, 1)", x.take(0, 0, 1), FULL);
            due.is("count(5)", x.count(5), 0);
        });
        edges.edge("7: NULL of t comes ahead of INDEX of s", due -> {
            OvenHouse x = two();
            due.is("take(1, 2, 40)", x.take(1, 2, 40), Edges.NULL);
        });
        edges.edge("7: INDEX of t comes ahead of BAD of an item of s", due -> {
            OvenHouse x = two();
            x.put(0, 1, 0, -1);
            due.is("take(0, 1, 4)", x.take(0, 1, 4), Edges.INDEX);
            due.is("take(1, 0, 4)", x.take(1, 0, 4), Edges.INDEX);
        });
        edges.edge("7: FULL comes ahead of BAD of an item", due -> {
            OvenHouse x = Edges.alike(40, 1, 1);
            Edges.lay(x, 0, 0, -1);
            due.is("take(0, 0, 1)", x.take(0, 0, 1), FULL);
        });
    }

    private static void takeItems() {
        for (int turn = 0; turn < 2; turn++) {
            int s = turn;
            String of = turn == 0 ? "MIX" : "BAKE";
            edges.edge("7: an item is 0 or 100000: " + of, due -> {
                OvenHouse x = new OvenHouse();
                Edges.lay(x, s, 2, 0, 100000);
                Edges.lay(x, 1 - s, 1, 5, 5);
                due.is("take(0, 1, 2)", x.take(0, 1, 2), 2);
                due.is("of(0, " + s + ")", x.of(0, s), 0);
                due.is("of(1, " + s + ")", x.of(1, s), 100000);
            });
            for (int wrong : new int[] {-1, 100001, MIN, MAX}) {
                edges.edge("7: BAD: an item is " + wrong + ": " + of, due -> {
                    OvenHouse x = new OvenHouse();
                    Edges.lay(x, s, 2, 1, wrong);
                    Edges.lay(x, 1 - s, 1, 5, 5);
                    due.is("take(0, 1, 2)", x.take(0, 1, 2), BAD);
                    due.is("count(0), not even the first came", x.count(0), 0);
                    due.is("count(4)", x.count(4), 0);
                    due.is("take(0, 1, 1), ahead of it", x.take(0, 1, 1), 1);
                });
                edges.edge("7: BAD: the first item is " + wrong + ": " + of, due -> {
                    OvenHouse x = new OvenHouse();
                    Edges.lay(x, s, 2, wrong, 1);
                    Edges.lay(x, 1 - s, 1, 5, 5);
                    due.is("take(0, 1, 1)", x.take(0, 1, 1), BAD);
                    due.is("count(0)", x.count(0), 0);
                });
            }
        }
        edges.edge("7: BAD: an item that is below 0 by its bits", due -> {
            OvenHouse x = new OvenHouse();
            Edges.lay(x, 0, 0, 128);
            due.is("take(0, 0, 1)", x.take(0, 0, 1), BAD);
            x.put(0, 0, 0, 127);
            due.is("take(0, 0, 1)", x.take(0, 0, 1), 1);
        });
        edges.edge("7: unlike FORMS are no STORE here", due -> {
            OvenHouse x = new OvenHouse();
            Edges.lay(x, 0, 0, 7);
            Edges.lay(x, 1, 2, 70000);
            due.is("take(0, 1, 1)", x.take(0, 1, 1), 1);
            due.is("take(1, 0, 1)", x.take(1, 0, 1), 2);
            due.is("of(1, 0)", x.of(1, 0), 70000);
            due.is("of(1, 1)", x.of(1, 1), 7);
        });
        edges.edge("7: the SHEETS stay as they were", due -> {
            OvenHouse x = two();
            x.take(0, 1, 3);
            x.undo();
            Edges.items(due, x, 0, 1, 1, 2, 3, 4);
            Edges.items(due, x, 1, 1, 11, 12, 13);
        });
    }
}
