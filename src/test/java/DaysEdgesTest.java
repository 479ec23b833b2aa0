/** The boundary cases that the promises 18 to 26 name: days, the least END, BEST, rings. */
public final class DaysEdgesTest {
    private static final int BAD = OvenHouse.BAD, NONE = OvenHouse.NONE, SPENT = OvenHouse.SPENT, NOT = OvenHouse.NOT;
    private static final int MIN = Edges.MIN, MAX = Edges.MAX;
    private static final Edges edges = new Edges("DaysEdgesTest");
    /** LAWS that are none, or k that do not go with them. */
    private static final int[][] NO_LAWS = {{-1, 0}, {3, 0}, {MIN, 0}, {MAX, 0}, {0, 1}, {0, -1}, {0, 5}, {1, 1},
        {1, -1}, {1, MAX}, {2, 0}, {2, 6}, {2, -1}, {2, MIN}, {2, MAX}, {3, 1}, {-1, 1}};
    /** Of all rows of these one alone is least by SHELF and PLACES, 47, the next one is 48: as they stand. */
    private static final int[] ONE_BEST = {2, 3, 3, 6, 5, 7, 7, 11, 10, 9, 9, 6, 7, 3};

    /** The END of these is another one by each LAW and each k: 36, 24, 34, 32, 30, 28, 26. */
    private static final int[] ALL_APART = {0, 2, 0, 2, 0, 2, 0, 2, 0, 2, 0, 2, 0, 2, 14, 10};

    private interface Call {
        int on(OvenHouse x, int law, int k);
    }

    public static void main(String[] args) {
        laws("18: day", (x, law, k) -> x.day(law, k));
        laws("19: moment", (x, law, k) -> x.moment(law, k, 0, 0));
        laws("20: idle", (x, law, k) -> x.idle(law, k));
        laws("22: least", (x, law, k) -> x.least(law, k));
        laws("23: second", (x, law, k) -> x.second(law, k));
        laws("24: better", (x, law, k) -> x.better(law, k));
        day();
        moment();
        idle();
        asked();
        bound();
        leastOfNone();
        leastByShelf();
        leastByPlaces();
        second();
        better();
        best();
        rings();
        edges.finish();
    }

    private static OvenHouse turnedRow(int... mixAndBake) {
        OvenHouse x = new OvenHouse();
        for (int i = mixAndBake.length - 2; i >= 0; i -= 2) {
            x.loaf(mixAndBake[i], mixAndBake[i + 1]);
        }
        return x;
    }

    private static void laws(String name, Call call) {
        for (int[] law : NO_LAWS) {
            edges.edge(name + ": BAD: LAW " + law[0] + ", k " + law[1], due -> {
                OvenHouse x = Edges.with(3, 1, 1, 3);
                long before = x.digest();
                due.is("it", call.on(x, law[0], law[1]), BAD);
                due.is("digest()", x.digest(), before);
                due.is("count(3)", x.count(3), 0);
                due.is("count(4)", x.count(4), 2);
                due.is("rings(0)", x.rings(0), BAD);
            });
        }
        for (int[] law : Edges.LAWS) {
            edges.edge(name + ": LAW " + law[0] + ", k " + law[1] + " is one", due -> {
                OvenHouse x = Edges.with(3, 1, 1, 3);
                due.holds("it is not refused", call.on(x, law[0], law[1]) >= 0);
            });
        }
    }

    private static void day() {
        edges.edge("18: each LAW and each k has its own END", due -> {
            OvenHouse x = Edges.with(ALL_APART);
            int[] want = {36, 24, 34, 32, 30, 28, 26};
            for (int i = 0; i < want.length; i++) {
                int[] law = Edges.LAWS[i];
                due.is("day(" + law[0] + ", " + law[1] + ")", x.day(law[0], law[1]), want[i]);
            }
        });
        edges.edge("18: it changes nothing", due -> {
            OvenHouse x = Edges.with(3, 1, 1, 3);
            long before = x.digest();
            x.day(2, 1);
            due.is("digest()", x.digest(), before);
            due.is("count(4)", x.count(4), 2);
        });
    }

    private static void moment() {
        for (int place : new int[] {-1, 3, 40, MIN, MAX}) {
            edges.edge("19: BAD: place " + place + " of 3", due -> {
                OvenHouse x = Edges.alike(3, 1, 1);
                for (int what = 0; what < 4; what++) {
                    due.is("moment " + what, x.moment(1, 0, place, what), BAD);
                }
            });
        }
        for (int what : new int[] {-1, 4, MIN, MAX}) {
            edges.edge("19: BAD: what " + what, due ->
                due.is("moment", Edges.alike(3, 1, 1).moment(1, 0, 0, what), BAD));
        }
        edges.edge("19: BAD: no LOAVES", due -> {
            OvenHouse x = new OvenHouse();
            for (int what = 0; what < 4; what++) {
                due.is("moment " + what, x.moment(0, 0, 0, what), BAD);
            }
        });
        edges.edge("19: the last place of 40", due -> {
            OvenHouse x = Edges.alike(40, 2, 1);
            due.is("moment 0", x.moment(1, 0, 39, 0), 78);
            due.is("moment 1", x.moment(1, 0, 39, 1), 80);
            due.is("moment 2", x.moment(1, 0, 39, 2), 80);
            due.is("moment 3", x.moment(1, 0, 39, 3), 81);
            due.is("moment 3, one place behind", x.moment(1, 0, 40, 3), BAD);
        });
        edges.edge("19: its mixing ends when it is mixed, though the mixer is held longer", due -> {
            OvenHouse x = Edges.with(1, 9, 1, 1, 1, 1, 1, 1);
            due.is("moment 1", x.moment(2, 1, 2, 1), 3);
            due.is("the next's moment 0", x.moment(2, 1, 3, 0), 10);
        });
        edges.edge("19: of the LOAF at a place, not of that number", due -> {
            OvenHouse x = Edges.with(3, 1, 1, 3);
            x.swap(0, 1);
            due.is("moment(1, 0, 0, 1)", x.moment(1, 0, 0, 1), 1);
            due.is("moment(1, 0, 1, 1)", x.moment(1, 0, 1, 1), 4);
        });
        edges.edge("19: in that DAY, not in one asked before", due -> {
            OvenHouse x = Edges.with(2, 6, 3, 1);
            x.day(0, 0);
            due.is("by SHELF", x.moment(1, 0, 1, 0), 2);
            x.day(1, 0);
            due.is("AT ONCE", x.moment(0, 0, 1, 0), 5);
        });
    }

    private static void idle() {
        for (int[] law : Edges.LAWS) {
            String by = ", LAW " + law[0] + ", k " + law[1];
            edges.edge("20: no LOAVES" + by, due ->
                due.is("idle", new OvenHouse().idle(law[0], law[1]), 0));
            edges.edge("20: from moment 0: the first MIX" + by, due ->
                due.is("idle", Edges.with(7, 3).idle(law[0], law[1]), 7));
            edges.edge("20: to the END: a COLD one behind" + by, due ->
                due.is("idle", Edges.with(1, 2, 9, 0).idle(law[0], law[1]), 8));
            edges.edge("20: RAW ones alone: never idle" + by, due ->
                due.is("idle", Edges.with(0, 3, 0, 2, 0, 1).idle(law[0], law[1]), 0));
            edges.edge("20: 40 of the longest" + by, due ->
                due.is("idle", Edges.alike(40, 100000, 100000).idle(law[0], law[1]), 100000));
        }
        edges.edge("20: between two LOAVES, by SHELF and AT ONCE", due -> {
            OvenHouse x = Edges.with(0, 5, 7, 1, 0, 1);
            due.is("idle(1, 0)", x.idle(1, 0), 2);
            due.is("idle(0, 0)", x.idle(0, 0), 2);
        });
    }

    private static void asked() {
        for (int[] law : Edges.LAWS) {
            edges.edge("a DAY by LAW " + law[0] + ", k " + law[1] + " is not one asked before", due -> {
                for (int[] before : Edges.LAWS) {
                    OvenHouse x = Edges.with(ALL_APART);
                    int day = x.day(law[0], law[1]);
                    x.day(before[0], before[1]);
                    due.is("day", x.day(law[0], law[1]), day);
                    x.day(before[0], before[1]);
                    due.is("moment", x.moment(law[0], law[1], 7, 3), day);
                    x.day(before[0], before[1]);
                    due.is("idle", x.idle(law[0], law[1]), day - 24);
                    x.day(before[0], before[1]);
                    due.is("rule", x.rule(), 24);
                }
            });
        }
    }

    private static void bound() {
        edges.edge("21: 0 without LOAVES", due -> due.is("bound()", new OvenHouse().bound(), 0));
        edges.edge("21: 0 again behind undo()", due -> {
            OvenHouse x = Edges.with(3, 4);
            x.undo();
            due.is("bound()", x.bound(), 0);
        });
        edges.edge("21: one LOAF", due -> due.is("bound()", Edges.with(3, 4).bound(), 7));
        edges.edge("21: the least BAKE is 0", due -> due.is("bound()", Edges.with(9, 0, 9, 5).bound(), 18));
        edges.edge("21: the least MIX is 0", due -> due.is("bound()", Edges.with(5, 9, 0, 9).bound(), 18));
        edges.edge("21: the one with all MIX is the greater one by one", due ->
            due.is("bound()", Edges.with(5, 2, 5, 4).bound(), 12));
        edges.edge("21: the one with all BAKE is the greater one by one", due ->
            due.is("bound()", Edges.with(2, 5, 4, 5).bound(), 12));
        edges.edge("21: both are like", due ->
            due.is("bound()", Edges.with(5, 2, 4, 5).bound(), 11));
        edges.edge("21: the least is of the last LOAF", due ->
            due.is("bound()", Edges.with(5, 5, 5, 5, 5, 1).bound(), 16));
        edges.edge("21: 40 of the longest", due ->
            due.is("bound()", Edges.alike(40, 100000, 100000).bound(), 4100000));
    }

    private static void leastOfNone() {
        for (int[] law : Edges.LAWS) {
            String by = ", LAW " + law[0] + ", k " + law[1];
            edges.edge("22: no LOAVES" + by, due -> {
                OvenHouse x = new OvenHouse();
                due.is("least", x.least(law[0], law[1]), 0);
                due.is("best(0)", x.best(0), NONE);
                due.is("count(3)", x.count(3), 1);
                due.is("count(4)", x.count(4), 0);
            });
            edges.edge("22: one LOAF" + by, due -> {
                OvenHouse x = Edges.with(3, 4);
                due.is("least", x.least(law[0], law[1]), 7);
                Edges.best(due, x, 0);
            });
            edges.edge("22: 7 LOAVES" + by, due -> {
                OvenHouse x = Edges.with(ONE_BEST);
                int end = law[0] == 0 ? 48 : 47;
                due.is("least", x.least(law[0], law[1]), end);
                due.is("use()", x.use(), 1);
                due.is("its day", x.day(law[0], law[1]), end);
            });
            edges.edge("22: 8 LOAVES" + by, due -> {
                OvenHouse x = Edges.alike(8, 2, 3);
                due.is("least", x.least(law[0], law[1]), law[0] == 2 ? SPENT : 26);
                due.is("count(3)", x.count(3), law[0] == 2 ? 0 : 1);
            });
            edges.edge("22: 40 LOAVES" + by, due -> {
                OvenHouse x = Edges.alike(40, 100000, 100000);
                due.is("least", x.least(law[0], law[1]), law[0] == 2 ? SPENT : 4100000);
            });
            edges.edge("22: THE ORDER stays" + by, due -> {
                OvenHouse x = Edges.with(3, 1, 1, 3);
                long before = x.digest();
                due.is("least", x.least(law[0], law[1]), 5);
                due.is("digest()", x.digest(), before);
                due.is("count(4)", x.count(4), 2);
                Edges.best(due, x, 1, 0);
            });
        }
        edges.edge("22: each k has its own least END", due -> {
            OvenHouse x = Edges.with(0, 2, 0, 2, 0, 2, 0, 2, 0, 2, 0, 2, 12, 10);
            int[] want = {32, 22, 30, 28, 26, 24, 22};
            for (int i = 0; i < want.length; i++) {
                int[] law = Edges.LAWS[i];
                due.is("least(" + law[0] + ", " + law[1] + ")", x.least(law[0], law[1]), want[i]);
            }
        });
        edges.edge("22: BAD comes ahead of SPENT", due -> {
            OvenHouse x = Edges.alike(8, 1, 1);
            due.is("least(2, 0)", x.least(2, 0), BAD);
            due.is("least(2, 6)", x.least(2, 6), BAD);
            due.is("least(3, 1)", x.least(3, 1), BAD);
        });
        edges.edge("22: SPENT leaves BEST and RINGS", due -> {
            OvenHouse x = Edges.alike(8, 3, 3);
            x.least(0, 0);
            int first = x.best(0);
            due.is("least(2, 5)", x.least(2, 5), SPENT);
            due.is("best(0)", x.best(0), first);
            due.is("count(3)", x.count(3), 1);
            due.is("rings(0)", x.rings(0), 9);
        });
        edges.edge("22: SPENT no more behind undo()", due -> {
            OvenHouse x = Edges.alike(8, 2, 3);
            x.undo();
            due.is("least(2, 1)", x.least(2, 1), 23);
        });
    }

    private static void leastByShelf() {
        edges.edge("22: SHELF by the rule: of like ones the lesser number", due -> {
            OvenHouse x = Edges.with(2, 2, 2, 2, 1, 2, 2, 2);
            x.swap(0, 3);
            due.is("least(1, 0)", x.least(1, 0), 9);
            Edges.best(due, x, 2, 0, 1, 3);
        });
        edges.edge("22: SHELF by the rule, though a row with lesser numbers first is least, too", due -> {
            OvenHouse x = Edges.with(5, 5, 1, 9);
            due.is("least(1, 0)", x.least(1, 0), 15);
            Edges.best(due, x, 1, 0);
            OvenHouse y = Edges.with(0, 5, 9, 9, 0, 4);
            due.is("least(1, 0)", y.least(1, 0), 18);
            Edges.best(due, y, 0, 2, 1);
        });
        edges.edge("22: SHELF finds no RINGS", due -> {
            OvenHouse x = Edges.with(3, 1, 1, 3);
            x.least(1, 0);
            due.is("rings(0)", x.rings(0), BAD);
        });
    }

    private static void leastByPlaces() {
        for (int k = 1; k <= 5; k++) {
            int places = k;
            edges.edge("22: PLACES " + k + ": the first of all rows is the least", due -> {
                OvenHouse x = Edges.with(ONE_BEST);
                due.is("least", x.least(2, places), 47);
                Edges.best(due, x, 0, 1, 2, 3, 4, 5, 6);
            });
            edges.edge("22: PLACES " + k + ": the last of all rows is the least", due -> {
                OvenHouse x = turnedRow(ONE_BEST);
                due.is("least", x.least(2, places), 47);
                Edges.best(due, x, 6, 5, 4, 3, 2, 1, 0);
            });
            edges.edge("22: PLACES " + k + ": all rows are like: BEST is the first", due -> {
                OvenHouse x = Edges.alike(7, 3, 2);
                x.swap(0, 6);
                due.is("least", x.least(2, places), 23);
                Edges.best(due, x, 0, 1, 2, 3, 4, 5, 6);
            });
        }
        edges.edge("22: PLACES: BEST is the first that is least, by the first LOAF in which they part", due -> {
            OvenHouse x = Edges.with(3, 0, 0, 4, 2, 2, 6, 1);
            due.is("least(2, 1)", x.least(2, 1), 11);
            Edges.best(due, x, 1, 2, 3, 0);
        });
        edges.edge("22: PLACES: of two LOAVES, like ends: LOAF 0 first", due -> {
            OvenHouse x = Edges.with(2, 2, 2, 2);
            x.swap(0, 1);
            due.is("least(2, 1)", x.least(2, 1), 6);
            Edges.best(due, x, 0, 1);
        });
        edges.edge("22: PLACES: of two LOAVES, one less: LOAF 1 first", due -> {
            OvenHouse x = Edges.with(3, 2, 2, 2);
            due.is("least(2, 1)", x.least(2, 1), 7);
            Edges.best(due, x, 0, 1);
            OvenHouse y = Edges.with(3, 2, 2, 3);
            due.is("least(2, 1)", y.least(2, 1), 7);
            Edges.best(due, y, 1, 0);
        });
        edges.edge("22: PLACES find no RINGS", due -> {
            OvenHouse x = Edges.with(3, 1, 1, 3);
            x.least(2, 1);
            due.is("rings(0)", x.rings(0), BAD);
        });
    }

    private static void second() {
        for (int[] law : Edges.LAWS) {
            String by = ", LAW " + law[0] + ", k " + law[1];
            edges.edge("23: NONE: no LOAVES" + by, due ->
                due.is("second", new OvenHouse().second(law[0], law[1]), NONE));
            edges.edge("23: NONE: one LOAF" + by, due ->
                due.is("second", Edges.with(3, 4).second(law[0], law[1]), NONE));
            edges.edge("23: two LOAVES: the other row, greater" + by, due ->
                due.is("second", Edges.with(1, 3, 3, 1).second(law[0], law[1]), 7));
            edges.edge("23: two LOAVES: the other row, less" + by, due ->
                due.is("second", Edges.with(3, 1, 1, 3).second(law[0], law[1]), 5));
            edges.edge("23: 7 LOAVES, THE ORDER is the first of all rows" + by, due ->
                due.is("second", Edges.with(ONE_BEST).second(law[0], law[1]), 48));
            edges.edge("23: 7 LOAVES, THE ORDER is not the least" + by, due -> {
                OvenHouse x = Edges.with(ONE_BEST);
                x.swap(0, 6);
                due.is("second", x.second(law[0], law[1]), law[0] == 0 ? 48 : 47);
            });
            edges.edge("23: 8 LOAVES: SPENT" + by, due ->
                due.is("second", Edges.alike(8, 1, 1).second(law[0], law[1]), SPENT));
        }
        for (int[] law : Edges.LAWS) {
            if (law[0] != 0) {
                edges.edge("23: 7 LOAVES, THE ORDER is the last of all rows, LAW " + law[0] + ", k " + law[1], due -> {
                    OvenHouse x = turnedRow(ONE_BEST);
                    for (int i = 0; i < 3; i++) {
                        x.swap(i, 6 - i);
                    }
                    due.is("day", x.day(law[0], law[1]), 47);
                    due.is("second", x.second(law[0], law[1]), 48);
                });
            }
        }
        edges.edge("23: 7 LOAVES again, where an eighth was taken back", due -> {
            OvenHouse x = Edges.with(ONE_BEST);
            x.loaf(9, 9);
            due.is("second(1, 0)", x.second(1, 0), SPENT);
            x.undo();
            due.is("second(1, 0)", x.second(1, 0), 48);
            due.is("second(2, 5)", x.second(2, 5), 48);
        });
        edges.edge("23: two LOAVES again, where more were taken back", due -> {
            OvenHouse x = Edges.with(1, 3, 3, 1, 9, 9, 9, 9);
            x.second(1, 0);
            x.undo();
            x.undo();
            due.is("second(1, 0)", x.second(1, 0), 7);
            x.undo();
            due.is("second(1, 0)", x.second(1, 0), NONE);
        });
        edges.edge("23: 40 LOAVES: SPENT", due ->
            due.is("second(1, 0)", Edges.alike(40, 1, 1).second(1, 0), SPENT));
        edges.edge("23: BAD comes ahead of NONE", due -> {
            due.is("second(0, 1)", new OvenHouse().second(0, 1), BAD);
            due.is("second(2, 0)", Edges.with(1, 1).second(2, 0), BAD);
        });
        edges.edge("23: BAD comes ahead of SPENT", due -> {
            due.is("second(0, 1)", Edges.alike(8, 1, 1).second(0, 1), BAD);
            due.is("second(2, 6)", Edges.alike(8, 1, 1).second(2, 6), BAD);
        });
        edges.edge("23: no BEST by it", due -> {
            OvenHouse x = Edges.with(3, 1, 1, 3);
            x.second(1, 0);
            due.is("use()", x.use(), NOT);
            due.is("best(0)", x.best(0), NONE);
            x.least(1, 0);
            x.swap(0, 1);
            x.second(1, 0);
            Edges.best(due, x, 1, 0);
        });
        edges.edge("23: a row of like LOAVES is another row", due ->
            due.is("second(1, 0)", Edges.alike(2, 2, 2).second(1, 0), 6));
    }

    private static void bettered(String sentence, int law, int k, int[] spans, int answer, int... want) {
        edges.edge("24: " + sentence, due -> {
            OvenHouse x = Edges.with(spans);
            int held = x.count(4);
            due.is("better(" + law + ", " + k + ")", x.better(law, k), answer);
            Edges.order(due, x, want);
            due.is("count(4)", x.count(4), Math.min(5, held + 1));
            due.is("better, again", x.better(law, k), 0);
        });
    }

    private static void better() {
        for (int[] law : Edges.LAWS) {
            String by = ", LAW " + law[0] + ", k " + law[1];
            bettered("no LOAVES" + by, law[0], law[1], new int[0], 0);
            bettered("one LOAF" + by, law[0], law[1], new int[] {3, 4}, 0, 0);
            bettered("a like END is not exchanged" + by, law[0], law[1], new int[] {2, 2, 2, 2}, 0, 0, 1);
            bettered("an END less by one is exchanged" + by, law[0], law[1], new int[] {3, 2, 2, 3}, 1, 1, 0);
            bettered("an END greater by one is not exchanged" + by, law[0], law[1], new int[] {2, 3, 3, 2}, 0, 0, 1);
        }
        bettered("the last two LOAVES", 1, 0, new int[] {1, 5, 5, 5, 9, 1, 9, 5}, 1, 0, 1, 3, 2);
        bettered("again from the first, not at once", 0, 0, new int[] {2, 6, 3, 4, 1, 0, 6, 1, 3, 7}, 3, 2, 0, 1, 4, 3);
        bettered("again from the first, till once none was", 1, 0, new int[] {9, 1, 5, 2, 2, 4, 1, 8}, 5, 2, 3, 1, 0);
        bettered("by LAW 0", 0, 0, new int[] {6, 8, 2, 0, 3, 5, 4, 7, 8, 4}, 3, 1, 2, 3, 0, 4);
        bettered("by LAW 1, not 5 PLACES", 1, 0,
                new int[] {3, 12, 0, 2, 1, 0, 0, 1, 0, 2, 0, 1, 0, 0, 2, 1, 9, 6}, 1, 1, 0, 2, 3, 4, 5, 6, 7, 8);
        bettered("by LAW 2, k 1", 2, 1, new int[] {0, 7, 2, 2, 0, 1, 5, 5}, 1, 0, 1, 3, 2);
        bettered("by LAW 2, k 2", 2, 2, new int[] {3, 5, 2, 1, 0, 2, 2, 0, 6, 4}, 3, 0, 1, 2, 4, 3);
        bettered("by LAW 2, k 3", 2, 3, new int[] {2, 7, 1, 1, 0, 0, 2, 2, 2, 0, 8, 6}, 2, 1, 0, 2, 3, 5, 4);
        bettered("by LAW 2, k 4", 2, 4,
                new int[] {5, 8, 0, 0, 1, 1, 0, 2, 2, 0, 2, 3, 8, 7}, 1, 1, 0, 2, 3, 4, 5, 6);
        bettered("by LAW 2, k 5, not SHELF", 2, 5,
                new int[] {6, 7, 1, 2, 1, 2, 1, 2, 0, 1, 1, 2, 2, 0, 0, 1, 11, 0}, 2, 1, 2, 0, 3, 4, 5, 6, 7, 8);
        edges.edge("24: the last two of 40 LOAVES", due -> {
            OvenHouse x = new OvenHouse();
            for (int i = 0; i < 40; i++) {
                x.loaf(100, i + 1);
            }
            due.is("better(1, 0)", x.better(1, 0), 1);
            due.is("at(37)", x.at(37), 37);
            due.is("at(38)", x.at(38), 39);
            due.is("at(39)", x.at(39), 38);
        });
        edges.edge("24: the first two of 40 LOAVES", due -> {
            OvenHouse x = new OvenHouse();
            for (int i = 0; i < 40; i++) {
                x.loaf(40 - i, 100);
            }
            due.is("better(1, 0)", x.better(1, 0), 1);
            due.is("at(0)", x.at(0), 1);
            due.is("at(1)", x.at(1), 0);
            due.is("at(39)", x.at(39), 39);
        });
        edges.edge("24: BAD is no call that undo() takes back", due -> {
            OvenHouse x = Edges.with(3, 1, 1, 3);
            due.is("better(1, 1)", x.better(1, 1), BAD);
            due.is("count(4)", x.count(4), 2);
            Edges.order(due, x, 0, 1);
        });
    }

    private static void best() {
        edges.edge("25: NONE: none was found", due -> {
            OvenHouse x = Edges.with(3, 1, 1, 3);
            due.is("best(0)", x.best(0), NONE);
            due.is("best(-1)", x.best(-1), NONE);
        });
        for (int place : new int[] {-1, 2, 39, 40, MIN, MAX}) {
            edges.edge("25: NONE: place " + place + " of 2", due -> {
                OvenHouse x = Edges.with(3, 1, 1, 3);
                x.least(1, 0);
                due.is("best(" + place + ")", x.best(place), NONE);
            });
        }
        edges.edge("25: the first and the last place of 40", due -> {
            OvenHouse x = new OvenHouse();
            for (int i = 0; i < 40; i++) {
                x.loaf(40 - i, 100);
            }
            x.least(1, 0);
            due.is("best(0)", x.best(0), 39);
            due.is("best(39)", x.best(39), 0);
            due.is("best(40)", x.best(40), NONE);
        });
        edges.edge("25: as it was found: LOAVES that come are not in it", due -> {
            OvenHouse x = Edges.with(3, 1, 1, 3);
            x.least(1, 0);
            x.loaf(0, 5);
            Edges.best(due, x, 1, 0);
        });
        edges.edge("25: as it was found: LOAVES that were taken back are in it", due -> {
            OvenHouse x = Edges.with(3, 1, 1, 3);
            x.least(1, 0);
            x.undo();
            x.undo();
            Edges.best(due, x, 1, 0);
        });
        edges.edge("25: as it was found: swap(), turn() and use() do not change it", due -> {
            OvenHouse x = Edges.with(3, 1, 1, 3, 2, 2);
            x.least(2, 1);
            Edges.best(due, x, 1, 2, 0);
            x.use();
            x.swap(0, 2);
            x.turn();
            Edges.best(due, x, 1, 2, 0);
        });
        edges.edge("25: a BEST of fewer LOAVES comes in its place", due -> {
            OvenHouse x = Edges.with(3, 1, 1, 3, 2, 2);
            x.least(1, 0);
            x.undo();
            x.least(1, 0);
            Edges.best(due, x, 1, 0);
        });
    }

    private static void rings() {
        edges.edge("26: BAD: before any", due -> {
            OvenHouse x = Edges.with(3, 1, 1, 3);
            for (int what = 0; what < 4; what++) {
                due.is("rings(" + what + ")", x.rings(what), BAD);
            }
        });
        for (int what : new int[] {-1, 4, MIN, MAX}) {
            edges.edge("26: BAD: what " + what, due -> {
                OvenHouse x = Edges.with(3, 1, 1, 3);
                due.is("before any", x.rings(what), BAD);
                x.least(0, 0);
                due.is("rings(" + what + ")", x.rings(what), BAD);
            });
        }
        edges.edge("26: BAD: before any, behind a refused round()", due -> {
            OvenHouse x = new OvenHouse();
            x.round();
            due.is("rings(0)", x.rings(0), BAD);
            x.loaf(1, 1);
            x.price(0, 0, -1);
            x.round();
            due.is("rings(0)", x.rings(0), BAD);
        });
        edges.edge("26: BAD: before any, behind second(), through(), rule()", due -> {
            OvenHouse x = Edges.with(3, 1, 1, 3);
            x.second(0, 0);
            x.through();
            x.rule();
            due.is("rings(0)", x.rings(0), BAD);
        });
        edges.edge("26: the latest: round() behind least() AT ONCE", due -> {
            OvenHouse x = Edges.with(4, 4);
            x.least(0, 0);
            Edges.rings(due, x, 2, 0, 1, 4);
            x.round();
            Edges.rings(due, x, 1, 0, 0, 0);
        });
        edges.edge("26: the latest: least() AT ONCE behind round()", due -> {
            OvenHouse x = Edges.heated(10, 30);
            x.price(0, 1, 1);
            x.round();
            Edges.rings(due, x, 1, 40 - 20, 0, 0);
            x.least(0, 0);
            Edges.rings(due, x, 2, 0, 1, 1);
        });
        edges.edge("26: the latest, whatever came behind", due -> {
            OvenHouse x = Edges.with(4, 4);
            x.least(0, 0);
            x.least(1, 0);
            x.least(2, 5);
            x.loaf(9, 9);
            x.turn();
            x.undo();
            x.undo();
            x.undo();
            Edges.rings(due, x, 2, 0, 1, 4);
        });
        edges.edge("26: THE PAIRING's cost, not THE ROUND's", due -> {
            OvenHouse x = Edges.priced(Edges.heated(10, 20, 30, 40), 1, 2);
            due.is("round()", x.round(), 70);
            Edges.rings(due, x, 2, 40, 1, 30);
        });
    }
}
