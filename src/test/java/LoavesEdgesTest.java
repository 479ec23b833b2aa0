/** The boundary cases that the promises 8 to 17 name: loaves, the order, undo. */
public final class LoavesEdgesTest {
    private static final int BAD = OvenHouse.BAD, FULL = OvenHouse.FULL, NONE = OvenHouse.NONE, NOT = OvenHouse.NOT;
    private static final int MIN = Edges.MIN, MAX = Edges.MAX;
    private static final Edges edges = new Edges("LoavesEdgesTest");

    public static void main(String[] args) {
        loaf();
        of();
        heat();
        price();
        at();
        swap();
        rule();
        use();
        useBehind();
        turn();
        undo();
        undoOfEachCall();
        undoRefused();
        edges.finish();
    }

    private static void loaf() {
        for (int wrong : new int[] {-1, 100001, MIN, MAX}) {
            edges.edge("8: BAD: MIX " + wrong, due -> {
                OvenHouse x = new OvenHouse();
                due.is("loaf(" + wrong + ", 5)", x.loaf(wrong, 5), BAD);
                due.is("count(0)", x.count(0), 0);
            });
            edges.edge("8: BAD: BAKE " + wrong, due -> {
                OvenHouse x = new OvenHouse();
                due.is("loaf(5, " + wrong + ")", x.loaf(5, wrong), BAD);
                due.is("count(0)", x.count(0), 0);
            });
        }
        edges.edge("8: MIX and BAKE 0", due -> due.is("loaf(0, 0)", new OvenHouse().loaf(0, 0), 0));
        edges.edge("8: MIX and BAKE 100000", due -> due.is("loaf", new OvenHouse().loaf(100000, 100000), 0));
        edges.edge("8: its number, 0 to 39", due -> {
            OvenHouse x = new OvenHouse();
            for (int i = 0; i < 40; i++) {
                due.is("loaf " + i, x.loaf(i, 40 - i), i);
            }
            due.is("of(39, 0)", x.of(39, 0), 39);
            due.is("of(39, 1)", x.of(39, 1), 1);
        });
        edges.edge("8: FULL: there are 40", due -> {
            OvenHouse x = Edges.alike(40, 1, 1);
            due.is("loaf(0, 0)", x.loaf(0, 0), FULL);
            due.is("loaf(100000, 100000)", x.loaf(100000, 100000), FULL);
        });
        edges.edge("8: BAD comes ahead of FULL", due -> {
            OvenHouse x = Edges.alike(40, 1, 1);
            due.is("loaf(-1, 0)", x.loaf(-1, 0), BAD);
            due.is("loaf(0, 100001)", x.loaf(0, 100001), BAD);
        });
        edges.edge("8: FULL no more behind undo()", due -> {
            OvenHouse x = Edges.alike(40, 1, 1);
            x.undo();
            due.is("loaf(2, 3)", x.loaf(2, 3), 39);
            due.is("of(39, 1)", x.of(39, 1), 3);
        });
    }

    private static void of() {
        edges.edge("9: BAD: no such LOAF, the one behind the last", due -> {
            OvenHouse x = Edges.alike(3, 1, 1);
            for (int what = 0; what <= 5; what++) {
                due.is("of(2, " + what + ") is none", x.of(2, what) == BAD ? 1 : 0, 0);
                due.is("of(3, " + what + ")", x.of(3, what), BAD);
            }
        });
        edges.edge("9: BAD: LOAF -1", due -> due.is("of(-1, 0)", Edges.alike(3, 1, 1).of(-1, 0), BAD));
        edges.edge("9: BAD: LOAVES far off", due -> {
            OvenHouse x = Edges.alike(40, 1, 1);
            due.is("of(40, 0)", x.of(40, 0), BAD);
            due.is("of(least, 5)", x.of(MIN, 5), BAD);
            due.is("of(most, 5)", x.of(MAX, 5), BAD);
        });
        edges.edge("9: BAD: without LOAVES", due -> due.is("of(0, 0)", new OvenHouse().of(0, 0), BAD));
        for (int what : new int[] {-1, 6, MIN, MAX}) {
            edges.edge("9: BAD: what " + what, due ->
                due.is("of(0, " + what + ")", Edges.with(1, 1).of(0, what), BAD));
        }
        edges.edge("9: its place in THE ORDER, from 0 to 39", due -> {
            OvenHouse x = Edges.alike(40, 1, 1);
            due.is("of(39, 5)", x.of(39, 5), 39);
            x.swap(0, 39);
            due.is("of(39, 5)", x.of(39, 5), 0);
            due.is("of(0, 5)", x.of(0, 5), 39);
        });
        edges.edge("9: a LOAF that was taken back is none", due -> {
            OvenHouse x = Edges.alike(3, 1, 1);
            x.undo();
            due.is("of(2, 0)", x.of(2, 0), BAD);
            due.is("of(1, 0)", x.of(1, 0), 1);
        });
    }

    private static void heat() {
        edges.edge("10: FROM and TO 0", due -> {
            OvenHouse x = Edges.heated(5, 6);
            due.is("heat(0, 0, 0)", x.heat(0, 0, 0), 1);
            due.is("of(0, 2)", x.of(0, 2), 0);
            due.is("of(0, 3)", x.of(0, 3), 0);
        });
        edges.edge("10: FROM and TO 399", due -> {
            OvenHouse x = Edges.heated(5, 6);
            due.is("heat(0, 399, 399)", x.heat(0, 399, 399), 1);
            due.is("of(0, 2)", x.of(0, 2), 399);
            due.is("of(0, 3)", x.of(0, 3), 399);
        });
        for (int wrong : new int[] {-1, 400, MIN, MAX}) {
            edges.edge("10: BAD: FROM " + wrong, due -> {
                OvenHouse x = Edges.heated(5, 6);
                due.is("heat(0, " + wrong + ", 7)", x.heat(0, wrong, 7), BAD);
                due.is("of(0, 2)", x.of(0, 2), 5);
                due.is("of(0, 3)", x.of(0, 3), 6);
            });
            edges.edge("10: BAD: TO " + wrong, due -> {
                OvenHouse x = Edges.heated(5, 6);
                due.is("heat(0, 7, " + wrong + ")", x.heat(0, 7, wrong), BAD);
                due.is("of(0, 2)", x.of(0, 2), 5);
                due.is("of(0, 3)", x.of(0, 3), 6);
            });
        }
        for (int wrong : new int[] {-1, 3, 40, MIN, MAX}) {
            edges.edge("10: BAD: no such LOAF, " + wrong, due ->
                due.is("heat(" + wrong + ", 0, 0)", Edges.alike(3, 1, 1).heat(wrong, 0, 0), BAD));
        }
        edges.edge("10: the last LOAF, and no other", due -> {
            OvenHouse x = Edges.alike(40, 1, 1);
            due.is("heat(39, 7, 8)", x.heat(39, 7, 8), 1);
            due.is("of(39, 3)", x.of(39, 3), 8);
            due.is("of(38, 3)", x.of(38, 3), 0);
        });
        edges.edge("10: of a LOAF by its number, not its place", due -> {
            OvenHouse x = Edges.alike(2, 1, 1);
            x.swap(0, 1);
            x.heat(0, 7, 8);
            due.is("of(0, 2)", x.of(0, 2), 7);
            due.is("of(1, 2)", x.of(1, 2), 0);
        });
    }

    private static void price() {
        edges.edge("11: STRETCH 0", due -> {
            OvenHouse x = Edges.heated(50, 0);
            due.is("price(0, 3, 0)", x.price(0, 3, 0), 1);
            due.is("cost()", x.cost(), 150);
        });
        edges.edge("11: STRETCH 7", due -> {
            OvenHouse x = Edges.heated(399, 0);
            due.is("price(7, 3, 0)", x.price(7, 3, 0), 1);
            due.is("cost()", x.cost(), 147);
        });
        edges.edge("11: UP 100", due -> {
            OvenHouse x = Edges.heated(1, 0);
            due.is("price(0, 100, 0)", x.price(0, 100, 0), 1);
            due.is("cost()", x.cost(), 100);
        });
        edges.edge("11: UP -100", due -> {
            OvenHouse x = Edges.heated(1, 0);
            due.is("price(0, -100, 0)", x.price(0, -100, 0), 1);
            due.is("cost()", x.cost(), -100);
        });
        edges.edge("11: DOWN 100", due -> {
            OvenHouse x = Edges.heated(0, 1);
            due.is("price(0, 0, 100)", x.price(0, 0, 100), 1);
            due.is("cost()", x.cost(), 100);
        });
        edges.edge("11: DOWN -100", due -> {
            OvenHouse x = Edges.heated(0, 1);
            due.is("price(0, 0, -100)", x.price(0, 0, -100), 1);
            due.is("cost()", x.cost(), -100);
        });
        for (int wrong : new int[] {-101, 101, MIN, MAX}) {
            edges.edge("11: BAD: UP " + wrong, due -> {
                OvenHouse x = Edges.priced(new OvenHouse(), 5, 6);
                long before = x.digest();
                due.is("price(3, " + wrong + ", 0)", x.price(3, wrong, 0), BAD);
                due.is("digest()", x.digest(), before);
            });
            edges.edge("11: BAD: DOWN " + wrong, due -> {
                OvenHouse x = Edges.priced(new OvenHouse(), 5, 6);
                long before = x.digest();
                due.is("price(3, 0, " + wrong + ")", x.price(3, 0, wrong), BAD);
                due.is("digest()", x.digest(), before);
            });
        }
        for (int wrong : new int[] {-1, 8, MIN, MAX}) {
            edges.edge("11: BAD: STRETCH " + wrong, due -> {
                OvenHouse x = Edges.priced(new OvenHouse(), 5, 6);
                long before = x.digest();
                due.is("price(" + wrong + ", 0, 0)", x.price(wrong, 0, 0), BAD);
                due.is("digest()", x.digest(), before);
            });
        }
        edges.edge("11: UP and DOWN may be together below 0", due ->
            due.is("price(0, -100, -100)", new OvenHouse().price(0, -100, -100), 1));
    }

    private static void at() {
        edges.edge("12: NONE: no LOAVES", due -> due.is("at(0)", new OvenHouse().at(0), NONE));
        for (int place : new int[] {-1, 3, 39, 40, MIN, MAX}) {
            edges.edge("12: NONE: place " + place + " of 3", due ->
                due.is("at(" + place + ")", Edges.alike(3, 1, 1).at(place), NONE));
        }
        edges.edge("12: the first and the last of 40", due -> {
            OvenHouse x = Edges.alike(40, 1, 1);
            due.is("at(0)", x.at(0), 0);
            due.is("at(39)", x.at(39), 39);
            due.is("at(40)", x.at(40), NONE);
        });
    }

    private static void swap() {
        edges.edge("13: the first and the last place", due -> {
            OvenHouse x = Edges.alike(3, 1, 1);
            due.is("swap(0, 2)", x.swap(0, 2), 1);
            Edges.order(due, x, 2, 1, 0);
        });
        edges.edge("13: the first and the last place of 40", due -> {
            OvenHouse x = Edges.alike(40, 1, 1);
            due.is("swap(39, 0)", x.swap(39, 0), 1);
            due.is("at(0)", x.at(0), 39);
            due.is("at(39)", x.at(39), 0);
            due.is("swap(39, 40)", x.swap(39, 40), BAD);
        });
        edges.edge("13: the greater place first", due -> {
            OvenHouse x = Edges.alike(3, 1, 1);
            due.is("swap(2, 1)", x.swap(2, 1), 1);
            Edges.order(due, x, 0, 2, 1);
        });
        edges.edge("13: a place with itself", due -> {
            OvenHouse x = Edges.alike(3, 1, 1);
            due.is("swap(2, 2)", x.swap(2, 2), 1);
            Edges.order(due, x, 0, 1, 2);
            due.is("count(4)", x.count(4), 4);
        });
        edges.edge("13: by places, not by LOAVES", due -> {
            OvenHouse x = Edges.alike(3, 1, 1);
            x.swap(0, 1);
            x.swap(0, 2);
            Edges.order(due, x, 2, 0, 1);
        });
        for (int wrong : new int[] {-1, 3, 40, MIN, MAX}) {
            edges.edge("13: BAD: the first place is " + wrong, due -> {
                OvenHouse x = Edges.alike(3, 1, 1);
                due.is("swap(" + wrong + ", 0)", x.swap(wrong, 0), BAD);
                Edges.order(due, x, 0, 1, 2);
            });
            edges.edge("13: BAD: the second place is " + wrong, due -> {
                OvenHouse x = Edges.alike(3, 1, 1);
                due.is("swap(0, " + wrong + ")", x.swap(0, wrong), BAD);
                Edges.order(due, x, 0, 1, 2);
            });
            edges.edge("13: BAD: both places are " + wrong, due ->
                due.is("swap", Edges.alike(3, 1, 1).swap(wrong, wrong), BAD));
        }
        edges.edge("13: BAD: no LOAVES", due -> due.is("swap(0, 0)", new OvenHouse().swap(0, 0), BAD));
    }

    private static void ruled(String sentence, int[] spans, int... want) {
        edges.edge("14: " + sentence, due -> {
            OvenHouse x = Edges.with(spans);
            int end = x.rule();
            Edges.order(due, x, want);
            due.is("its END", end, x.day(1, 0));
        });
    }

    private static void rule() {
        edges.edge("14: no LOAVES", due -> {
            OvenHouse x = new OvenHouse();
            due.is("rule()", x.rule(), 0);
            due.is("count(4)", x.count(4), 1);
        });
        ruled("one LOAF", new int[] {3, 4}, 0);
        ruled("a MIX like its BAKE is not above it", new int[] {6, 5, 5, 5}, 1, 0);
        ruled("a MIX one above its BAKE is of the others", new int[] {5, 4, 6, 6}, 1, 0);
        ruled("by MIX, the least first", new int[] {3, 9, 1, 9, 2, 9, 0, 9}, 3, 1, 2, 0);
        ruled("by MIX, whatever the BAKE", new int[] {3, 3, 2, 9, 1, 5}, 2, 1, 0);
        ruled("the others by BAKE, the greatest first", new int[] {9, 1, 9, 3, 9, 0, 9, 2}, 1, 3, 0, 2);
        ruled("the others by BAKE, whatever the MIX", new int[] {4, 3, 9, 2, 5, 4}, 2, 0, 1);
        ruled("of like MIX the lesser number first", new int[] {2, 9, 1, 5, 1, 9, 1, 1}, 1, 2, 3, 0);
        ruled("of like BAKE the lesser number first", new int[] {5, 1, 3, 2, 9, 2, 4, 2}, 1, 2, 3, 0);
        ruled("RAW LOAVES first, COLD ones last", new int[] {5, 0, 0, 5, 0, 0, 1, 1}, 1, 2, 3, 0);
        ruled("the greatest MIX is ahead of the greatest BAKE of the others",
                new int[] {100000, 99999, 100000, 100000}, 1, 0);
        ruled("the others of BAKE 0 behind those of BAKE 1", new int[] {1, 0, 2, 1, 100000, 0}, 1, 0, 2);
        edges.edge("14: of like ones the lesser number first, wherever they stand", due -> {
            OvenHouse x = Edges.with(2, 2, 2, 2, 9, 1, 9, 1);
            x.turn();
            x.turn();
            x.swap(0, 1);
            x.swap(2, 3);
            x.rule();
            Edges.order(due, x, 0, 1, 2, 3);
        });
        edges.edge("14: 40 LOAVES", due -> {
            OvenHouse x = new OvenHouse();
            for (int i = 0; i < 40; i++) {
                x.loaf(40 - i, 100);
            }
            due.is("rule()", x.rule(), 4001);
            due.is("at(0)", x.at(0), 39);
            due.is("at(39)", x.at(39), 0);
        });
        edges.edge("14: its END by SHELF, whatever LAW was asked before", due -> {
            OvenHouse x = Edges.with(1, 9, 1, 1, 1, 1, 9, 1);
            x.day(2, 1);
            due.is("rule()", x.rule(), 13);
            x.day(0, 0);
            due.is("rule()", x.rule(), 13);
        });
    }

    private static void use() {
        edges.edge("15: NOT: there is none", due -> {
            OvenHouse x = Edges.with(1, 3, 3, 1);
            due.is("use()", x.use(), NOT);
            due.is("count(4)", x.count(4), 2);
        });
        edges.edge("15: BEST of no LOAVES", due -> {
            OvenHouse x = new OvenHouse();
            x.least(1, 0);
            due.is("use()", x.use(), 1);
            due.is("count(4)", x.count(4), 1);
        });
        edges.edge("15: BEST of no LOAVES is not for one", due -> {
            OvenHouse x = new OvenHouse();
            x.least(1, 0);
            x.loaf(1, 1);
            due.is("use()", x.use(), NOT);
        });
        edges.edge("15: BEST of 40 LOAVES", due -> {
            OvenHouse x = new OvenHouse();
            for (int i = 0; i < 40; i++) {
                x.loaf(40 - i, 100);
            }
            x.least(1, 0);
            due.is("use()", x.use(), 1);
            due.is("at(0)", x.at(0), 39);
            due.is("at(39)", x.at(39), 0);
        });
        edges.edge("15: the latest BEST", due -> {
            OvenHouse x = Edges.with(3, 1, 1, 3);
            x.least(1, 0);
            x.round();
            due.is("use()", x.use(), 1);
            Edges.order(due, x, 0, 1);
            x.least(1, 0);
            due.is("use(), again", x.use(), 1);
            Edges.order(due, x, 1, 0);
        });
        edges.edge("15: it is BEST already", due -> {
            OvenHouse x = Edges.with(1, 3, 3, 1);
            x.least(1, 0);
            due.is("use()", x.use(), 1);
            due.is("use(), again", x.use(), 1);
            due.is("count(4)", x.count(4), 4);
        });
    }

    private interface Call {
        int on(OvenHouse x);
    }

    private static void stays(String call, int answer, Call made) {
        edges.edge("15: BEST is still to be used behind " + call, due -> {
            OvenHouse x = Edges.with(3, 1, 1, 3);
            x.least(1, 0);
            due.is(call, made.on(x), answer);
            due.is("count(3)", x.count(3), 1);
            due.is("use()", x.use(), 1);
            Edges.order(due, x, 1, 0);
        });
    }

    private static void goes(String call, int answer, Call made) {
        edges.edge("15: NOT behind " + call, due -> {
            OvenHouse x = Edges.with(3, 1, 1, 3);
            Edges.lay(x, 0, 0, 1);
            x.least(1, 0);
            due.is(call, made.on(x), answer);
            due.is("count(3)", x.count(3), 0);
            long before = x.digest();
            due.is("use()", x.use(), NOT);
            due.is("digest()", x.digest(), before);
        });
    }

    private static void useBehind() {
        goes("loaf()", 2, x -> x.loaf(1, 1));
        goes("take()", 3, x -> x.take(0, 0, 1));
        goes("turn()", 1, x -> x.turn());
        goes("undo()", 1, x -> x.undo());
        goes("swap() and undo()", 2, x -> x.swap(0, 1) + x.undo() - 1);
        goes("turn() twice", 2, x -> x.turn() + x.turn());
        goes("loaf() and undo()", 4, x -> x.loaf(1, 1) + x.undo());
        stays("a refused loaf()", BAD, x -> x.loaf(-1, 0));
        stays("a refused take()", Edges.NULL, x -> x.take(0, 0, 1));
        stays("swap()", 1, x -> x.swap(0, 1));
        stays("heat()", 1, x -> x.heat(0, 5, 6));
        stays("price()", 1, x -> x.price(0, 5, 6));
        stays("rule()", 5, x -> x.rule());
        stays("better()", 1, x -> x.better(1, 0));
        stays("use()", 1, x -> x.use());
        stays("a refused least()", BAD, x -> x.least(2, 6));
        stays("second()", 7, x -> x.swap(0, 1) + x.second(1, 0) - 1);
        stays("through()", 0, x -> x.through());
        stays("a refused round()", NOT, x -> Math.min(x.price(0, 0, -1), x.round()));
        edges.edge("15: BEST is still to be used behind a refused undo()", due -> {
            OvenHouse x = new OvenHouse();
            x.least(1, 0);
            due.is("undo()", x.undo(), NOT);
            due.is("use()", x.use(), 1);
        });
        edges.edge("15: BEST is still to be used behind a refused loaf() of 41", due -> {
            OvenHouse x = Edges.alike(40, 1, 1);
            x.least(1, 0);
            due.is("loaf(1, 1)", x.loaf(1, 1), FULL);
            due.is("use()", x.use(), 1);
        });
        edges.edge("15: a new BEST is to be used behind undo()", due -> {
            OvenHouse x = Edges.with(3, 1, 1, 3);
            x.swap(0, 1);
            x.undo();
            x.least(1, 0);
            due.is("use()", x.use(), 1);
        });
    }

    private static void turn() {
        edges.edge("16: no LOAVES", due -> {
            OvenHouse x = new OvenHouse();
            due.is("turn()", x.turn(), 1);
            due.is("count(0)", x.count(0), 0);
            due.is("count(4)", x.count(4), 1);
        });
        edges.edge("16: one LOAF", due -> {
            OvenHouse x = Edges.with(3, 4);
            x.heat(0, 5, 6);
            due.is("turn()", x.turn(), 1);
            int[] want = {4, 3, 6, 5, 2, 0};
            for (int what = 0; what < 6; what++) {
                due.is("of(0, " + what + ")", x.of(0, what), want[what]);
            }
        });
        edges.edge("16: an even row is turned about", due -> {
            OvenHouse x = Edges.alike(4, 1, 1);
            x.swap(0, 1);
            x.turn();
            Edges.order(due, x, 3, 2, 0, 1);
        });
        edges.edge("16: an odd row is turned about", due -> {
            OvenHouse x = Edges.alike(5, 1, 1);
            x.swap(0, 1);
            x.turn();
            Edges.order(due, x, 4, 3, 2, 0, 1);
        });
        edges.edge("16: each of 40 LOAVES", due -> {
            OvenHouse x = new OvenHouse();
            for (int i = 0; i < 40; i++) {
                x.loaf(i, 100000 - i);
            }
            x.heat(39, 399, 0);
            x.turn();
            due.is("at(0)", x.at(0), 39);
            due.is("at(39)", x.at(39), 0);
            due.is("of(0, 0)", x.of(0, 0), 100000);
            due.is("of(0, 1)", x.of(0, 1), 0);
            due.is("of(39, 0)", x.of(39, 0), 99961);
            due.is("of(39, 1)", x.of(39, 1), 39);
            due.is("of(39, 2)", x.of(39, 2), 0);
            due.is("of(39, 3)", x.of(39, 3), 399);
        });
        edges.edge("16: KINDS: RAW becomes COLD, QUICK SLOW, like ones stay", due -> {
            OvenHouse x = Edges.with(0, 5, 5, 0, 2, 3, 3, 2, 4, 4, 0, 0);
            x.turn();
            int[] want = {4, 3, 2, 1, 1, 3};
            for (int loaf = 0; loaf < 6; loaf++) {
                due.is("of(" + loaf + ", 4)", x.of(loaf, 4), want[loaf]);
            }
        });
        edges.edge("16: twice is as it was", due -> {
            OvenHouse x = Edges.with(0, 5, 5, 0, 2, 3);
            x.heat(1, 7, 8);
            x.swap(0, 1);
            long before = x.digest();
            x.turn();
            due.holds("digest() is another", x.digest() != before);
            x.turn();
            due.is("digest()", x.digest(), before);
        });
    }

    private static void undo() {
        edges.edge("17: NOT: none", due -> {
            OvenHouse x = new OvenHouse();
            due.is("undo()", x.undo(), NOT);
            due.is("undo(), again", x.undo(), NOT);
            due.is("count(4)", x.count(4), 0);
        });
        edges.edge("17: one: none are left", due -> {
            OvenHouse x = Edges.with(1, 1);
            due.is("undo()", x.undo(), 0);
            due.is("undo(), again", x.undo(), NOT);
            due.is("count(0)", x.count(0), 0);
        });
        for (int calls = 4; calls <= 7; calls++) {
            int n = calls;
            int kept = Math.min(n, 5);
            edges.edge("17: the latest 5: of " + n + " calls", due -> {
                OvenHouse x = Edges.alike(n, 1, 1);
                due.is("count(4)", x.count(4), kept);
                for (int left = kept - 1; left >= 0; left--) {
                    due.is("undo()", x.undo(), left);
                    due.is("count(0)", x.count(0), n - kept + left);
                }
                due.is("undo(), one more", x.undo(), NOT);
                due.is("count(0)", x.count(0), n - kept);
            });
        }
        edges.edge("17: undo() is not one of them", due -> {
            OvenHouse x = Edges.alike(3, 1, 1);
            due.is("undo()", x.undo(), 2);
            due.is("undo()", x.undo(), 1);
            due.is("count(0)", x.count(0), 1);
        });
        edges.edge("17: a call behind undo() is one of them", due -> {
            OvenHouse x = Edges.alike(5, 1, 1);
            x.undo();
            x.undo();
            x.swap(0, 1);
            due.is("count(4)", x.count(4), 4);
            due.is("undo()", x.undo(), 3);
            Edges.order(due, x, 0, 1, 2);
        });
        edges.edge("17: 5 again behind undo(): the one ahead of them is lost", due -> {
            OvenHouse x = Edges.alike(6, 1, 1);
            x.undo();
            x.swap(0, 1);
            x.swap(1, 2);
            due.is("count(4)", x.count(4), 5);
            int[] loaves = {5, 5, 4, 3, 2};
            for (int i = 0; i < 5; i++) {
                due.is("undo()", x.undo(), 4 - i);
                due.is("count(0)", x.count(0), loaves[i]);
            }
            due.is("undo()", x.undo(), NOT);
            due.is("count(0)", x.count(0), 2);
        });
        edges.edge("17: many calls, the latest 5 all the same", due -> {
            OvenHouse x = Edges.alike(6, 1, 1);
            for (int i = 0; i < 23; i++) {
                x.swap(i % 5, i % 5 + 1);
            }
            long[] before = new long[5];
            for (int i = 0; i < 5; i++) {
                before[i] = x.digest();
                x.heat(i, 9 + i, 8);
            }
            for (int left = 4; left >= 0; left--) {
                due.is("undo()", x.undo(), left);
                due.is("digest()", x.digest(), before[left]);
            }
        });
        edges.edge("17: from 40 LOAVES to none", due -> {
            OvenHouse x = new OvenHouse();
            x.sheet(0, 0, 40);
            x.take(0, 0, 40);
            due.is("undo()", x.undo(), 0);
            due.is("count(0)", x.count(0), 0);
            due.is("at(0)", x.at(0), NONE);
            due.is("take(0, 0, 40)", x.take(0, 0, 40), 40);
        });
        edges.edge("17: SHEETS, prices and RINGS are not taken back", due -> {
            OvenHouse x = Edges.heated(10, 30);
            x.price(0, 2, 3);
            x.round();
            Edges.lay(x, 0, 0, 7);
            x.undo();
            x.undo();
            Edges.items(due, x, 0, 0, 7);
            Edges.rings(due, x, 1, 60, 0, 0);
            x.loaf(1, 1);
            x.heat(0, 10, 30);
            due.is("cost()", x.cost(), 60);
        });
    }

    private static void counts(String call, Call made) {
        edges.edge("17: is as ahead of " + call, due -> {
            OvenHouse x = Edges.with(5, 2, 3, 1, 1, 3, 2, 2);
            Edges.lay(x, 0, 0, 4, 5);
            x.heat(1, 17, 18);
            x.least(1, 0);
            int held = x.count(4);
            due.is("count(4)", held, 5);
            long before = x.digest();
            due.holds("it is not refused", made.on(x) >= 0);
            due.holds("it changes something", x.digest() != before);
            due.is("undo()", x.undo(), 4);
            due.is("digest()", x.digest(), before);
        });
    }

    private static void countsAllTheSame(String call, Call made) {
        edges.edge("17: also where nothing came of " + call, due -> {
            OvenHouse x = Edges.with(1, 3, 3, 1);
            x.least(1, 0);
            long before = x.digest();
            due.holds("it is not refused", made.on(x) >= 0);
            due.is("count(4)", x.count(4), 3);
            due.is("digest()", x.digest(), before);
            due.is("undo()", x.undo(), 2);
            due.is("digest()", x.digest(), before);
        });
    }

    private static void undoOfEachCall() {
        counts("take()", x -> x.take(0, 0, 2));
        counts("loaf()", x -> x.loaf(9, 9));
        counts("heat()", x -> x.heat(1, 1, 2));
        counts("swap()", x -> x.swap(1, 3));
        counts("rule()", x -> x.rule());
        counts("use()", x -> x.use());
        counts("turn()", x -> x.turn());
        counts("better()", x -> x.better(1, 0));
        countsAllTheSame("heat()", x -> x.heat(0, 0, 0));
        countsAllTheSame("swap()", x -> x.swap(1, 1));
        countsAllTheSame("rule()", x -> x.rule());
        countsAllTheSame("use()", x -> x.use());
        countsAllTheSame("better()", x -> x.better(1, 0));
        edges.edge("17: also where nothing came of turn()", due -> {
            OvenHouse x = Edges.with(4, 4);
            long before = x.digest();
            x.turn();
            due.is("digest()", x.digest(), before);
            due.is("undo()", x.undo(), 1);
        });
        edges.edge("17: without LOAVES too: rule(), turn(), better(), use()", due -> {
            OvenHouse x = new OvenHouse();
            x.rule();
            x.turn();
            x.better(2, 5);
            x.least(0, 0);
            x.use();
            due.is("count(4)", x.count(4), 4);
            for (int left = 3; left >= 0; left--) {
                due.is("undo()", x.undo(), left);
            }
        });
    }

    private static void counted(String call, int answer, Call made) {
        edges.edge("17: no call that undo() takes back: " + call, due -> {
            OvenHouse x = Edges.with(1, 3, 3, 1, 2, 2);
            Edges.lay(x, 0, 2, 4, 5, -1);
            due.is(call, made.on(x), answer);
            due.is("count(4)", x.count(4), 3);
            due.is("undo()", x.undo(), 2);
            due.is("count(0)", x.count(0), 2);
        });
    }

    private static void undoRefused() {
        counted("take(), BAD", BAD, x -> x.take(0, 0, 0));
        counted("take(), FULL", FULL, x -> x.take(0, 0, 38));
        counted("take(), NULL", Edges.NULL, x -> x.take(0, 1, 1));
        counted("take(), INDEX", Edges.INDEX, x -> x.take(0, 0, 4));
        counted("take(), BAD item", BAD, x -> x.take(0, 0, 3));
        counted("loaf(), BAD", BAD, x -> x.loaf(1, -1));
        counted("heat(), BAD", BAD, x -> x.heat(0, 400, 0));
        counted("swap(), BAD", BAD, x -> x.swap(0, 3));
        counted("use(), NOT", NOT, x -> x.use());
        counted("better(), BAD", BAD, x -> x.better(1, 1));
        counted("price()", 1, x -> x.price(0, 1, 1));
        counted("sheet()", 2, x -> x.sheet(1, 1, 2));
        counted("put()", 1, x -> x.put(0, 2, 0, 9));
        counted("copy()", 1, x -> x.copy(0, 0, 0, 1, 2));
        counted("lose()", 3, x -> x.lose(0));
        counted("least()", 7, x -> x.least(2, 5));
        counted("least() AT ONCE", 8, x -> x.least(0, 0));
        counted("second()", 7, x -> x.second(1, 0));
        counted("round()", 0, x -> x.round());
        counted("through()", 0, x -> x.through());
        counted("day()", 8, x -> x.day(1, 0));
        edges.edge("17: no call that undo() takes back: loaf(), FULL", due -> {
            OvenHouse x = new OvenHouse();
            x.sheet(0, 0, 40);
            x.take(0, 0, 40);
            due.is("loaf(1, 1)", x.loaf(1, 1), FULL);
            due.is("count(4)", x.count(4), 1);
            due.is("undo()", x.undo(), 0);
            due.is("count(0)", x.count(0), 0);
        });
    }
}
