import java.math.BigInteger;

/** The boundary cases that the promises 27 to 32 name: rounds of heats, batches, counts, the digest. */
public final class HeatsEdgesTest {
    private static final int BAD = OvenHouse.BAD, NONE = OvenHouse.NONE, SPENT = OvenHouse.SPENT, NOT = OvenHouse.NOT;
    private static final int MIN = Edges.MIN, MAX = Edges.MAX;
    private static final Edges edges = new Edges("HeatsEdgesTest");

    public static void main(String[] args) {
        cost();
        round();
        roundRefused();
        through();
        throughRows();
        batches();
        countNumbers();
        countBest();
        countUndo();
        countFindings();
        digest();
        edges.finish();
    }

    private static void cost() {
        edges.edge("27: 0 without LOAVES", due -> {
            OvenHouse x = Edges.priced(new OvenHouse(), 5, 6);
            due.is("cost()", x.cost(), 0);
        });
        edges.edge("27: one LOAF: from its TO to its own FROM, up", due ->
            due.is("cost()", Edges.priced(Edges.heated(30, 10), 2, 3).cost(), 40));
        edges.edge("27: one LOAF: from its TO to its own FROM, down", due ->
            due.is("cost()", Edges.priced(Edges.heated(10, 30), 2, 3).cost(), 60));
        edges.edge("27: from the last one's to the first one's", due -> {
            OvenHouse x = Edges.priced(Edges.heated(5, 10, 10, 20, 20, 9), 2, 3);
            due.is("cost()", x.cost(), 12);
        });
        edges.edge("27: from each one's to the next one's, by THE ORDER", due -> {
            OvenHouse x = Edges.priced(Edges.heated(5, 10, 10, 20, 20, 9), 2, 3);
            x.swap(0, 1);
            // 1 to 0: 20 to 5; 0 to 2: 10 to 20; 2 to 1: 9 to 10.
            due.is("cost()", x.cost(), 45 + 20 + 2);
        });
        edges.edge("27: below 0", due ->
            due.is("cost()", Edges.priced(Edges.heated(399, 0), -100, 0).cost(), -39900));
        edges.edge("27: also where round() is NOT", due ->
            due.is("cost()", Edges.priced(Edges.heated(399, 0), 1, -100).cost(), 399));
        edges.edge("27: 40 LOAVES", due -> {
            OvenHouse x = Edges.priced(Edges.alike(40, 1, 1), 1, 1);
            x.heat(39, 0, 399);
            due.is("cost()", x.cost(), 399);
        });
    }

    private static void round() {
        edges.edge("28: one LOAF", due -> {
            OvenHouse x = Edges.priced(Edges.heated(10, 30), 2, 3);
            due.is("round()", x.round(), 60);
            Edges.best(due, x, 0);
        });
        edges.edge("28: 40 LOAVES", due -> {
            OvenHouse x = Edges.priced(Edges.alike(40, 1, 1), 1, 1);
            for (int i = 0; i < 40; i++) {
                x.heat(i, 10 * i, 10 * i + 5);
            }
            int cost = x.round();
            due.is("round()", cost, 40 * 5 + 39 * 10);
            due.is("use()", x.use(), 1);
            due.is("at(0)", x.at(0), 0);
            due.is("cost()", x.cost(), cost);
        });
        edges.edge("28: BEST is that: use() makes its cost", due -> {
            OvenHouse x = Edges.priced(Edges.heated(10, 90, 300, 20, 60, 60), 2, 1);
            x.swap(0, 2);
            int cost = x.round();
            due.is("through()", x.through(), cost);
            x.use();
            due.is("cost()", x.cost(), cost);
        });
        edges.edge("28: THE ORDER stays", due -> {
            OvenHouse x = Edges.priced(Edges.heated(10, 20, 30, 40), 1, 2);
            x.swap(0, 1);
            long before = x.digest();
            due.is("round()", x.round(), 70);
            due.is("digest()", x.digest(), before);
            due.is("count(4)", x.count(4), 5);
            due.is("at(0)", x.at(0), 1);
        });
        for (int stretch = 0; stretch < 8; stretch++) {
            int one = stretch;
            edges.edge("28: UP and DOWN of STRETCH " + stretch + " are together 0", due -> {
                OvenHouse x = Edges.heated(7, 7);
                x.price(one, -100, 100);
                due.is("round()", x.round(), 0);
                x.price(one, 100, -100);
                due.is("round()", x.round(), 0);
                due.is("count(3)", x.count(3), 1);
            });
            edges.edge("28: NOT: UP and DOWN of STRETCH " + stretch + " are together -1", due -> {
                OvenHouse x = Edges.heated(7, 7);
                x.price(one, -100, 99);
                due.is("round()", x.round(), NOT);
                x.price(one, 99, -100);
                due.is("round()", x.round(), NOT);
                due.is("count(3)", x.count(3), 0);
            });
        }
        edges.edge("28: UP and DOWN together, with heats in that STRETCH", due -> {
            OvenHouse x = Edges.heated(0, 399, 200, 10, 390, 50);
            x.price(0, 1, -1);
            x.price(3, 5, 0);
            x.price(7, 2, 3);
            due.is("round()", x.round(), 267);
            due.is("through()", x.through(), 267);
        });
    }

    private static void roundRefused() {
        edges.edge("28: NOT: no LOAVES", due -> {
            OvenHouse x = new OvenHouse();
            due.is("round()", x.round(), NOT);
            due.is("count(3)", x.count(3), 0);
            due.is("best(0)", x.best(0), NONE);
        });
        edges.edge("28: NOT: no LOAVES again behind undo()", due -> {
            OvenHouse x = Edges.heated(1, 2);
            x.undo();
            x.undo();
            due.is("round()", x.round(), NOT);
        });
        edges.edge("28: NOT: both: no LOAVES and prices below 0", due -> {
            OvenHouse x = Edges.priced(new OvenHouse(), -1, 0);
            due.is("round()", x.round(), NOT);
        });
        edges.edge("28: NOT leaves BEST and RINGS", due -> {
            OvenHouse x = Edges.with(3, 1, 1, 3);
            x.least(0, 0);
            int cost = x.rings(1);
            x.price(7, 0, -1);
            due.is("round()", x.round(), NOT);
            Edges.best(due, x, 1, 0);
            due.is("count(3)", x.count(3), 1);
            due.is("rings(1)", x.rings(1), cost);
        });
        edges.edge("28: no more NOT with another price", due -> {
            OvenHouse x = Edges.heated(7, 7);
            x.price(3, 0, -1);
            due.is("round()", x.round(), NOT);
            x.price(3, 1, -1);
            due.is("round()", x.round(), 0);
        });
    }

    /** Eight LOAVES whose one round without cost goes by these numbers. */
    private static OvenHouse free(int... row) {
        OvenHouse x = Edges.priced(Edges.alike(row.length, 1, 1), 1, 1);
        for (int place = 0; place < row.length; place++) {
            int next = (place + 1) % row.length;
            x.heat(row[place], 10 * place, 10 * next);
        }
        return x;
    }

    private static void through() {
        edges.edge("29: NOT: no LOAVES", due -> due.is("through()", new OvenHouse().through(), NOT));
        edges.edge("29: NOT: no LOAVES, and not SPENT, behind undo()", due -> {
            OvenHouse x = new OvenHouse();
            x.sheet(0, 0, 9);
            x.take(0, 0, 9);
            due.is("through()", x.through(), SPENT);
            x.undo();
            due.is("through()", x.through(), NOT);
        });
        edges.edge("29: one LOAF", due -> {
            due.is("through(), up", Edges.priced(Edges.heated(30, 10), 2, 3).through(), 40);
            due.is("through(), down", Edges.priced(Edges.heated(10, 30), 2, 3).through(), 60);
        });
        edges.edge("29: two LOAVES: one round", due ->
            due.is("through()", Edges.priced(Edges.heated(10, 20, 30, 40), 1, 2).through(), 70));
        edges.edge("29: 8 LOAVES", due -> {
            OvenHouse x = Edges.priced(Edges.alike(8, 1, 1), 1, 1);
            for (int i = 0; i < 8; i++) {
                x.heat(i, 10 * i, 10 * i + 5);
            }
            due.is("through()", x.through(), 8 * 5 + 7 * 10);
        });
        edges.edge("29: SPENT: 9 LOAVES", due -> due.is("through()", Edges.alike(9, 1, 1).through(), SPENT));
        edges.edge("29: SPENT: 40 LOAVES", due -> due.is("through()", Edges.alike(40, 1, 1).through(), SPENT));
        edges.edge("29: also where UP and DOWN are together below 0", due -> {
            OvenHouse x = Edges.priced(Edges.heated(10, 20, 30, 40), -3, 2);
            due.is("round()", x.round(), NOT);
            due.is("through()", x.through(), -10 * 3 + 30 * 2);
        });
        edges.edge("29: the least cost is below 0", due ->
            due.is("through()", Edges.priced(Edges.heated(0, 399, 0, 399), 0, -100).through(), -79800));
        edges.edge("29: the greatest least cost", due -> {
            OvenHouse x = Edges.priced(Edges.alike(8, 1, 1), 100, 100);
            for (int i = 0; i < 8; i++) {
                x.heat(i, 0, 399);
            }
            due.is("through()", x.through(), 8 * 39900);
        });
        edges.edge("29: no BEST and no RINGS by it", due -> {
            OvenHouse x = Edges.heated(10, 20, 30, 40);
            x.through();
            due.is("count(3)", x.count(3), 0);
            due.is("best(0)", x.best(0), NONE);
            due.is("rings(0)", x.rings(0), BAD);
        });
    }

    private static void freeRow(String sentence, int... row) {
        edges.edge("29: " + sentence, due -> {
            OvenHouse x = free(row);
            due.is("through()", x.through(), 0);
            due.is("round()", x.round(), 0);
            Edges.best(due, x, row);
        });
    }

    private static void throughRows() {
        freeRow("the least is the first of all rows", 0, 1, 2, 3, 4, 5, 6, 7);
        freeRow("the least is the last of all rows that begin with LOAF 0", 0, 7, 6, 5, 4, 3, 2, 1);
        freeRow("the least is a row amid", 0, 4, 7, 1, 6, 2, 5, 3);
        freeRow("the least is the last row, of 3 LOAVES", 0, 2, 1);
        edges.edge("29: rows that begin with LOAF 0, wherever it stands", due -> {
            OvenHouse x = free(0, 3, 1, 2);
            x.swap(0, 3);
            due.is("through()", x.through(), 0);
        });
    }

    private static void batches() {
        edges.edge("30: no LOAVES", due -> {
            due.is("batches(1)", new OvenHouse().batches(1), 0);
            due.is("batches(40)", new OvenHouse().batches(40), 0);
        });
        for (int size : new int[] {0, -1, 41, MIN, MAX}) {
            edges.edge("30: BAD: " + size, due -> {
                due.is("batches(" + size + ")", Edges.with(1, 2).batches(size), BAD);
                due.is("batches(" + size + "), no LOAVES", new OvenHouse().batches(size), BAD);
            });
        }
        edges.edge("30: 1: all BAKE", due -> due.is("batches(1)", Edges.with(1, 2, 1, 3, 1, 2).batches(1), 7));
        edges.edge("30: 40: the longest alone", due -> due.is("batches(40)", Edges.with(1, 2, 1, 3, 1, 2).batches(40), 3));
        edges.edge("30: as many as there are LOAVES", due ->
            due.is("batches(3)", Edges.with(1, 2, 1, 3, 1, 2).batches(3), 3));
        edges.edge("30: one more than there are LOAVES", due ->
            due.is("batches(4)", Edges.with(1, 2, 1, 3, 1, 2).batches(4), 3));
        edges.edge("30: one less than there are LOAVES: the least is left", due ->
            due.is("batches(2)", Edges.with(1, 2, 1, 3, 1, 1).batches(2), 4));
        edges.edge("30: batches are full but for one", due ->
            due.is("batches(2)", Edges.with(1, 1, 1, 5, 1, 2, 1, 4, 1, 3).batches(2), 5 + 3 + 1));
        edges.edge("30: of 40 LOAVES, 40 at once and 39 at once", due -> {
            OvenHouse x = new OvenHouse();
            for (int i = 0; i < 40; i++) {
                x.loaf(1, 100000 - i);
            }
            due.is("batches(40)", x.batches(40), 100000);
            due.is("batches(39)", x.batches(39), 100000 + 99961);
            due.is("batches(1)", x.batches(1), 4000000 - 780);
        });
        edges.edge("30: BAKE 0", due -> due.is("batches(1)", Edges.with(1, 0, 2, 0).batches(1), 0));
        edges.edge("30: by BAKE, not by MIX, whatever THE ORDER is", due -> {
            OvenHouse x = Edges.with(9, 1, 1, 9, 9, 1, 1, 9);
            x.swap(0, 3);
            due.is("batches(2)", x.batches(2), 10);
            due.is("at(0)", x.at(0), 3);
        });
    }

    private static void countNumbers() {
        for (int what : new int[] {-1, 6, MIN, MAX}) {
            edges.edge("31: BAD: what " + what, due -> {
                due.is("count(" + what + ")", new OvenHouse().count(what), BAD);
                due.is("count(" + what + ")", Edges.with(1, 1).count(what), BAD);
            });
        }
        edges.edge("31: 0 LOAVES: none and 40", due -> {
            due.is("count(0)", new OvenHouse().count(0), 0);
            due.is("count(0)", Edges.alike(40, 1, 2).count(0), 40);
        });
        edges.edge("31: 1 all MIX: none and the most", due -> {
            due.is("count(1)", new OvenHouse().count(1), 0);
            due.is("count(1)", Edges.alike(40, 100000, 0).count(1), 4000000);
        });
        edges.edge("31: 2 all BAKE: none and the most", due -> {
            due.is("count(2)", new OvenHouse().count(2), 0);
            due.is("count(2)", Edges.alike(40, 0, 100000).count(2), 4000000);
        });
    }

    private static void countBest() {
        edges.edge("31: 3 a BEST that use() would take: none was found", due ->
            due.is("count(3)", Edges.with(1, 1).count(3), 0));
        edges.edge("31: 3 a BEST that use() would take: it was found", due -> {
            OvenHouse x = Edges.with(1, 1);
            x.least(2, 1);
            due.is("count(3)", x.count(3), 1);
            x.use();
            due.is("count(3) behind use()", x.count(3), 1);
        });
        edges.edge("31: 3 a BEST that use() would take: of no LOAVES", due -> {
            OvenHouse x = new OvenHouse();
            x.least(0, 0);
            due.is("count(3)", x.count(3), 1);
        });
        edges.edge("31: 3 a BEST that use() would take: it would not, though best() tells it", due -> {
            OvenHouse x = Edges.with(1, 1);
            x.round();
            x.turn();
            due.is("count(3)", x.count(3), 0);
            due.is("best(0)", x.best(0), 0);
        });
    }

    private static void countUndo() {
        edges.edge("31: 4 calls that undo() can take back: 0 to 5", due -> {
            OvenHouse x = new OvenHouse();
            for (int calls = 0; calls <= 7; calls++) {
                due.is("count(4) behind " + calls, x.count(4), Math.min(calls, 5));
                x.loaf(1, 1);
            }
        });
        edges.edge("31: 4 calls that undo() can take back: as undo() tells", due -> {
            OvenHouse x = Edges.alike(3, 1, 1);
            for (int left = 2; left >= 0; left--) {
                due.is("undo()", x.undo(), left);
                due.is("count(4)", x.count(4), left);
            }
            due.is("undo()", x.undo(), NOT);
            due.is("count(4)", x.count(4), 0);
        });
    }

    private static void found(OvenHouse x, int number) {
        switch (number) {
            case 1:
                x.lose(3);
                break;
            case 2:
                x.put(0, 0, 1, 1);
                break;
            case 3:
                x.put(0, 1, 0, 1);
                break;
            case 4:
                x.copy(0, 0, 1, 0, 1);
                break;
            default:
                x.sheet(2, 0, -1);
                break;
        }
    }

    private static void countFindings() {
        edges.edge("31: 5 the latest FINDING: 0 before any", due -> {
            OvenHouse x = Edges.with(1, 1);
            x.sheet(4, 0, -1);
            x.loaf(-1, 0);
            x.least(2, 6);
            x.use();
            due.is("count(5)", x.count(5), 0);
        });
        for (int number = 1; number <= 5; number++) {
            int one = number;
            int next = number % 5 + 1;
            edges.edge("31: 5 the latest FINDING: " + number + ", then " + next, due -> {
                OvenHouse x = new OvenHouse();
                Edges.lay(x, 0, 0, 7);
                Edges.lay(x, 1, 1, 8);
                found(x, one);
                due.is("count(5)", x.count(5), one);
                due.is("what is right does not change it", x.put(0, 0, 0, 1), 1);
                due.is("nor a BAD one", x.put(0, 3, 0, 1), BAD);
                due.is("count(5)", x.count(5), one);
                found(x, next);
                due.is("count(5)", x.count(5), next);
            });
        }
        edges.edge("31: 5 the latest FINDING: also of get()", due -> {
            OvenHouse x = new OvenHouse();
            x.get(0, 0, 0);
            due.is("count(5)", x.count(5), 1);
        });
        edges.edge("31: 5 the latest FINDING: also of take()", due -> {
            OvenHouse x = new OvenHouse();
            x.sheet(0, 0, 1);
            x.take(0, 0, 2);
            due.is("count(5)", x.count(5), 2);
        });
        edges.edge("31: 5 the latest FINDING: undo() does not take it back", due -> {
            OvenHouse x = Edges.with(1, 1);
            x.lose(0);
            x.undo();
            due.is("count(5)", x.count(5), 1);
        });
    }

    /** As promise 32 tells it, in numbers that never wrap, cut at the end. */
    private static long digestOf(int... each) {
        BigInteger h = BigInteger.valueOf(17);
        for (int one : each) {
            h = h.multiply(BigInteger.valueOf(31)).add(BigInteger.valueOf(one));
        }
        return h.longValue();
    }

    private static void digest() {
        edges.edge("32: no LOAVES, all prices 0: h wraps", due ->
            due.is("digest()", new OvenHouse().digest(), digestOf(new int[16])));
        edges.edge("32: 40 LOAVES: h wraps many times", due -> {
            OvenHouse x = new OvenHouse();
            int[] each = new int[40 * 6 + 40 + 16];
            for (int i = 0; i < 40; i++) {
                x.loaf(100000 - i, 99990 + i % 10);
                x.heat(i, 399 - i, i);
            }
            for (int i = 0; i < 40; i++) {
                for (int what = 0; what < 6; what++) {
                    each[6 * i + what] = x.of(i, what);
                }
                each[240 + i] = i;
            }
            due.is("digest()", x.digest(), digestOf(each));
        });
        edges.edge("32: numbers below 0 are taken as longs", due -> {
            OvenHouse x = Edges.priced(new OvenHouse(), -100, -1);
            int[] each = new int[16];
            for (int i = 0; i < 16; i += 2) {
                each[i] = -100;
                each[i + 1] = -1;
            }
            due.is("digest()", x.digest(), digestOf(each));
        });
        edges.edge("32: the last price alone", due -> {
            OvenHouse x = new OvenHouse();
            x.price(7, 0, -1);
            due.is("digest()", x.digest(), new OvenHouse().digest() - 1);
            x.price(7, 1, 0);
            due.is("digest()", x.digest(), new OvenHouse().digest() + 31);
        });
        edges.edge("32: of each LOAF in the row of their numbers, then THE ORDER", due -> {
            OvenHouse x = Edges.with(3, 0, 0, 4);
            x.heat(1, 5, 6);
            x.swap(0, 1);
            int[] each = {3, 0, 0, 0, 4, 1, 0, 4, 5, 6, 3, 0, 1, 0, 0, 0, 0, 0, 0, 0, 0, 0, 0, 0, 0, 0, 0, 0, 0, 0};
            due.is("digest()", x.digest(), digestOf(each));
        });
        edges.edge("32: SHEETS, BEST, RINGS and FINDINGS are not in it", due -> {
            OvenHouse x = Edges.with(3, 1, 1, 3);
            long before = x.digest();
            Edges.lay(x, 0, 0, 7);
            x.lose(3);
            x.least(0, 0);
            due.is("digest()", x.digest(), before);
        });
    }
}
