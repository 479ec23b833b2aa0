import java.util.ArrayList;
import java.util.List;
import java.util.Map;
import java.util.TreeMap;

/**
 * That refused calls and questions change nothing: of two objects made alike one gets the call, then all
 * that can be asked of both is like. And which refusal comes first, where several fit.
 */
public final class RefusalsTest {
    private static final int BAD = OvenHouse.BAD, FULL = OvenHouse.FULL, NONE = OvenHouse.NONE;
    private static final int SPENT = OvenHouse.SPENT, NOT = OvenHouse.NOT;
    private static final int MIN = Edges.MIN, MAX = Edges.MAX;
    private static final Edges edges = new Edges("RefusalsTest");

    private interface Maker {
        OvenHouse make();
    }

    private interface Call {
        long on(OvenHouse x);
    }

    private static final Maker NEW = OvenHouse::new;
    private static final Maker RICH = RefusalsTest::rich;
    private static final Maker ALL = RefusalsTest::all;
    private static final Maker NINE = RefusalsTest::nine;
    private static final Maker LOSSY = RefusalsTest::lossy;

    public static void main(String[] args) {
        sheets();
        copies();
        takes();
        loaves();
        days();
        rounds();
        questions();
        edges.finish();
    }

    /** Four LOAVES with heats, prices, three SHEETS, BEST, RINGS, a FINDING, 5 calls to take back. */
    private static OvenHouse rich() {
        OvenHouse x = new OvenHouse();
        Edges.lay(x, 0, 0, 4, 5, 6);
        Edges.lay(x, 1, 1, 7, 8, 9, 300);
        Edges.lay(x, 2, 2, 10, 100001, -1);
        x.take(0, 1, 3);
        x.loaf(9, 2);
        for (int i = 0; i < 4; i++) {
            x.heat(i, 40 * i + 3, 300 - 50 * i);
        }
        Edges.priced(x, 3, 2);
        x.swap(1, 3);
        x.put(0, 1, 0, 0);
        x.least(0, 0);
        return x;
    }

    private static OvenHouse all() {
        OvenHouse x = new OvenHouse();
        x.sheet(0, 0, 40);
        x.sheet(1, 0, 0);
        x.sheet(2, 0, 2);
        x.put(2, 0, 0, -1);
        x.take(0, 0, 40);
        x.swap(3, 30);
        x.least(0, 0);
        return x;
    }

    private static OvenHouse nine() {
        OvenHouse x = rich();
        x.take(0, 1, 3);
        x.loaf(3, 3);
        x.loaf(2, 7);
        x.round();
        return x;
    }

    private static OvenHouse lossy() {
        OvenHouse x = rich();
        x.price(7, 99, -100);
        return x;
    }

    /** All that can be asked, in one row of answers; what is asked about SHEETS tells FINDINGS, so it is late. */
    private static Map<String, Long> picture(OvenHouse x) {
        Map<String, Long> told = new TreeMap<>();
        for (int what = 0; what <= 5; what++) {
            told.put("count(" + what + ")", (long) x.count(what));
        }
        for (int what = 0; what <= 3; what++) {
            told.put("rings(" + what + ")", (long) x.rings(what));
        }
        for (int place = 0; place <= 40; place++) {
            told.put("best(" + place + ")", (long) x.best(place));
        }
        told.put("digest()", x.digest());
        for (int s = 0; s < 4; s++) {
            for (int form = 0; form < 3; form++) {
                for (int i = 0; i <= 4; i++) {
                    told.put("get(" + s + ", " + form + ", " + i + ")", (long) x.get(s, form, i));
                }
            }
            told.put("lose(" + s + ")", (long) x.lose(s));
        }
        for (int times = 1; times <= 6; times++) {
            told.put("undo(), time " + times, (long) x.undo());
            told.put("digest() behind undo(), time " + times, x.digest());
        }
        return told;
    }

    private static void like(Due due, Maker maker, Call call, long answer, long finding) {
        OvenHouse asked = maker.make();
        due.is("the call", call.on(asked), answer);
        Map<String, Long> want = picture(maker.make());
        if (finding != 0) {
            want.put("count(5)", finding);
        }
        Map<String, Long> got = picture(asked);
        List<String> rows = new ArrayList<>(want.keySet());
        for (String row : rows) {
            due.is("behind it " + row, got.get(row), want.get(row));
        }
    }

    private static void refused(String sentence, Maker maker, long answer, Call call) {
        edges.edge("refused: " + sentence, due ->
            like(due, maker, call, answer, answer <= -11 && answer >= -15 ? -10 - answer : 0));
    }

    private static void got(String sentence, Maker maker, long finding, Call call) {
        edges.edge("refused: " + sentence, due -> like(due, maker, call, MIN, finding));
    }

    private static void question(String sentence, Maker maker, long answer, Call call) {
        edges.edge("it changes nothing: " + sentence, due -> like(due, maker, call, answer, 0));
    }

    private static void sheets() {
        refused("sheet: BAD: SHEET -1", RICH, BAD, x -> x.sheet(-1, 0, 1));
        refused("sheet: BAD: SHEET 4", RICH, BAD, x -> x.sheet(4, 0, 1));
        refused("sheet: BAD: FORM -1", RICH, BAD, x -> x.sheet(0, -1, 1));
        refused("sheet: BAD: FORM 3", RICH, BAD, x -> x.sheet(0, 3, 1));
        refused("sheet: BAD: above 40", RICH, BAD, x -> x.sheet(0, 0, 41));
        refused("sheet: SIZE", RICH, Edges.SIZE, x -> x.sheet(0, 1, -1));
        refused("sheet: SIZE of a LOST one", RICH, Edges.SIZE, x -> x.sheet(3, 1, -1));
        refused("sheet: BAD FORM ahead of SIZE", RICH, BAD, x -> x.sheet(0, 3, -1));
        refused("sheet: BAD SHEET ahead of SIZE", RICH, BAD, x -> x.sheet(4, 0, -1));
        refused("lose: BAD", RICH, BAD, x -> x.lose(4));
        refused("lose: NULL", RICH, Edges.NULL, x -> x.lose(3));
        refused("put: BAD: SHEET", RICH, BAD, x -> x.put(4, 0, 0, 1));
        refused("put: BAD: FORM", RICH, BAD, x -> x.put(0, 3, 0, 1));
        refused("put: NULL", RICH, Edges.NULL, x -> x.put(3, 0, 0, 1));
        refused("put: CAST", RICH, Edges.CAST, x -> x.put(0, 1, 0, 1));
        refused("put: INDEX behind", RICH, Edges.INDEX, x -> x.put(0, 0, 3, 1));
        refused("put: INDEX below 0", RICH, Edges.INDEX, x -> x.put(0, 0, -1, 1));
        refused("put: BAD FORM ahead of NULL", RICH, BAD, x -> x.put(3, 3, 0, 1));
        refused("put: NULL ahead of INDEX", RICH, Edges.NULL, x -> x.put(3, 0, -1, 1));
        refused("put: CAST ahead of INDEX", RICH, Edges.CAST, x -> x.put(0, 2, 3, 1));
        got("get: BAD: SHEET", RICH, 0, x -> x.get(4, 0, 0));
        got("get: BAD: FORM", RICH, 0, x -> x.get(0, 3, 0));
        got("get: NULL", RICH, 1, x -> x.get(3, 0, 0));
        got("get: CAST", RICH, 3, x -> x.get(0, 1, 0));
        got("get: INDEX", RICH, 2, x -> x.get(0, 0, 3));
        got("get: BAD FORM ahead of NULL", RICH, 0, x -> x.get(3, 3, 0));
        got("get: NULL ahead of INDEX", RICH, 1, x -> x.get(3, 0, -1));
        got("get: CAST ahead of INDEX", RICH, 3, x -> x.get(0, 2, 3));
    }

    private static void copies() {
        refused("copy: BAD: s", RICH, BAD, x -> x.copy(4, 0, 0, 0, 1));
        refused("copy: BAD: t", RICH, BAD, x -> x.copy(0, 0, -1, 0, 1));
        refused("copy: NULL: s", RICH, Edges.NULL, x -> x.copy(3, 0, 0, 0, 1));
        refused("copy: NULL: t", RICH, Edges.NULL, x -> x.copy(0, 0, 3, 0, 1));
        refused("copy: STORE", RICH, Edges.STORE, x -> x.copy(0, 0, 1, 0, 1));
        refused("copy: INDEX: i below 0", RICH, Edges.INDEX, x -> x.copy(0, -1, 0, 0, 1));
        refused("copy: INDEX: j below 0", RICH, Edges.INDEX, x -> x.copy(0, 0, 0, -1, 1));
        refused("copy: INDEX: n below 0", RICH, Edges.INDEX, x -> x.copy(0, 0, 0, 1, -1));
        refused("copy: INDEX: s has not so many, not one comes", RICH, Edges.INDEX, x -> x.copy(0, 1, 0, 0, 3));
        refused("copy: INDEX: t has not so many, not one comes", RICH, Edges.INDEX, x -> x.copy(0, 0, 0, 1, 3));
        refused("copy: BAD t ahead of NULL s", RICH, BAD, x -> x.copy(3, 0, 4, 0, 1));
        refused("copy: BAD s ahead of NULL t", RICH, BAD, x -> x.copy(-1, 0, 3, 0, 1));
        refused("copy: NULL ahead of INDEX", RICH, Edges.NULL, x -> x.copy(3, -1, 0, 0, 1));
        refused("copy: STORE ahead of INDEX", RICH, Edges.STORE, x -> x.copy(0, 0, 1, 0, 9));
    }

    private static void takes() {
        refused("take: BAD: s", RICH, BAD, x -> x.take(-1, 0, 1));
        refused("take: BAD: t", RICH, BAD, x -> x.take(0, 4, 1));
        refused("take: BAD: n 0", RICH, BAD, x -> x.take(0, 0, 0));
        refused("take: BAD: n 41", RICH, BAD, x -> x.take(0, 0, 41));
        refused("take: FULL", RICH, FULL, x -> x.take(0, 0, 37));
        refused("take: FULL, of 40", ALL, FULL, x -> x.take(0, 0, 1));
        refused("take: NULL: s", RICH, Edges.NULL, x -> x.take(3, 0, 1));
        refused("take: NULL: t", RICH, Edges.NULL, x -> x.take(0, 3, 1));
        refused("take: INDEX: s", RICH, Edges.INDEX, x -> x.take(0, 1, 4));
        refused("take: INDEX: t", RICH, Edges.INDEX, x -> x.take(1, 0, 4));
        refused("take: BAD: MIX above 100000, not the first comes", RICH, BAD, x -> x.take(2, 1, 2));
        refused("take: BAD: BAKE above 100000, not the first comes", RICH, BAD, x -> x.take(1, 2, 2));
        refused("take: BAD n ahead of FULL", ALL, BAD, x -> x.take(0, 0, 41));
        refused("take: BAD t ahead of FULL", ALL, BAD, x -> x.take(0, 4, 1));
        refused("take: BAD n ahead of NULL", RICH, BAD, x -> x.take(3, 0, 0));
        refused("take: FULL ahead of NULL", ALL, FULL, x -> x.take(3, 0, 1));
        refused("take: FULL ahead of INDEX", ALL, FULL, x -> x.take(1, 1, 1));
        refused("take: FULL ahead of BAD of an item", ALL, FULL, x -> x.take(2, 2, 1));
        refused("take: NULL ahead of INDEX", RICH, Edges.NULL, x -> x.take(0, 3, 9));
        refused("take: INDEX ahead of BAD of an item", RICH, Edges.INDEX, x -> x.take(2, 0, 4));
    }

    private static void loaves() {
        refused("loaf: BAD: MIX", RICH, BAD, x -> x.loaf(-1, 0));
        refused("loaf: BAD: BAKE", RICH, BAD, x -> x.loaf(0, 100001));
        refused("loaf: FULL", ALL, FULL, x -> x.loaf(0, 0));
        refused("loaf: BAD ahead of FULL", ALL, BAD, x -> x.loaf(0, -1));
        refused("of: BAD: LOAF", RICH, BAD, x -> x.of(4, 0));
        refused("of: BAD: what", RICH, BAD, x -> x.of(0, 6));
        refused("heat: BAD: LOAF", RICH, BAD, x -> x.heat(4, 0, 0));
        refused("heat: BAD: FROM", RICH, BAD, x -> x.heat(0, 400, 0));
        refused("heat: BAD: TO, FROM does not come either", RICH, BAD, x -> x.heat(0, 9, -1));
        refused("price: BAD: STRETCH", RICH, BAD, x -> x.price(8, 0, 0));
        refused("price: BAD: UP", RICH, BAD, x -> x.price(0, 101, 0));
        refused("price: BAD: DOWN, UP does not come either", RICH, BAD, x -> x.price(0, 9, -101));
        refused("at: NONE", RICH, NONE, x -> x.at(4));
        refused("swap: BAD", RICH, BAD, x -> x.swap(0, 4));
        refused("swap: BAD: no LOAVES", NEW, BAD, x -> x.swap(0, 0));
        refused("use: NOT: there is none", NEW, NOT, x -> x.use());
        refused("use: NOT: LOAVES came", () -> {
            OvenHouse x = rich();
            x.loaf(1, 1);
            return x;
        }, NOT, x -> x.use());
        refused("use: NOT: turn() was done", () -> {
            OvenHouse x = rich();
            x.turn();
            return x;
        }, NOT, x -> x.use());
        refused("undo: NOT, with a BEST that stays", () -> {
            OvenHouse x = new OvenHouse();
            x.least(0, 0);
            return x;
        }, NOT, x -> x.undo());
    }

    private static void days() {
        refused("day: BAD: LAW", RICH, BAD, x -> x.day(3, 0));
        refused("day: BAD: k", RICH, BAD, x -> x.day(2, 6));
        refused("moment: BAD: LAW", RICH, BAD, x -> x.moment(-1, 0, 0, 0));
        refused("moment: BAD: place", RICH, BAD, x -> x.moment(0, 0, 4, 0));
        refused("moment: BAD: what", RICH, BAD, x -> x.moment(0, 0, 0, 4));
        refused("idle: BAD", RICH, BAD, x -> x.idle(1, 1));
        refused("least: BAD", RICH, BAD, x -> x.least(0, 1));
        refused("least: BAD PLACES", RICH, BAD, x -> x.least(2, 0));
        refused("least: SPENT", NINE, SPENT, x -> x.least(2, 5));
        refused("least: BAD ahead of SPENT", NINE, BAD, x -> x.least(2, 6));
        refused("second: BAD", RICH, BAD, x -> x.second(2, 0));
        refused("second: NONE", NEW, NONE, x -> x.second(2, 5));
        refused("second: SPENT", NINE, SPENT, x -> x.second(1, 0));
        refused("second: BAD ahead of NONE", NEW, BAD, x -> x.second(2, 6));
        refused("second: BAD ahead of SPENT", NINE, BAD, x -> x.second(1, 1));
        refused("better: BAD", RICH, BAD, x -> x.better(2, 6));
        refused("best: NONE", RICH, NONE, x -> x.best(4));
        refused("rings: BAD", RICH, BAD, x -> x.rings(4));
        refused("rings: BAD: before any", NEW, BAD, x -> x.rings(0));
    }

    private static void rounds() {
        refused("round: NOT: no LOAVES", NEW, NOT, x -> x.round());
        refused("round: NOT: together below 0", LOSSY, NOT, x -> x.round());
        refused("through: NOT: no LOAVES", NEW, NOT, x -> x.through());
        refused("through: SPENT", NINE, SPENT, x -> x.through());
        refused("batches: BAD: 0", RICH, BAD, x -> x.batches(0));
        refused("batches: BAD: 41", RICH, BAD, x -> x.batches(41));
        refused("count: BAD: -1", RICH, BAD, x -> x.count(-1));
        refused("count: BAD: 6", RICH, BAD, x -> x.count(6));
    }

    private static void questions() {
        question("get", RICH, 300, x -> x.get(1, 1, 3));
        question("of", RICH, 3, x -> x.of(1, 5));
        question("at", RICH, 3, x -> x.at(1));
        question("day", RICH, 36, x -> x.day(0, 0));
        question("moment", RICH, 4, x -> x.moment(2, 1, 0, 1));
        question("idle", RICH, 10, x -> x.idle(1, 0));
        question("bound", RICH, 30, x -> x.bound());
        question("second", RICH, 30, x -> x.second(2, 3));
        question("best", RICH, 0, x -> x.best(0));
        question("rings", RICH, 2, x -> x.rings(0));
        question("cost", RICH, 1296, x -> x.cost());
        question("through", RICH, 1296, x -> x.through());
        question("batches", RICH, 16, x -> x.batches(2));
        question("count", RICH, 26, x -> x.count(2));
        question("digest", RICH, rich().digest(), x -> x.digest());
        edges.edge("least() and round() change BEST and RINGS alone", due -> {
            OvenHouse x = rich();
            x.least(2, 2);
            x.round();
            Map<String, Long> want = picture(rich());
            Map<String, Long> got = picture(x);
            for (String row : want.keySet()) {
                if (!row.startsWith("best") && !row.startsWith("rings")) {
                    due.is("behind them " + row, got.get(row), want.get(row));
                }
            }
        });
        edges.edge("calls on SHEETS change SHEETS alone", due -> {
            OvenHouse x = rich();
            x.put(0, 0, 1, 99);
            x.copy(1, 0, 1, 1, 2);
            x.sheet(3, 2, 3);
            x.lose(2);
            Map<String, Long> want = picture(rich());
            Map<String, Long> got = picture(x);
            due.is("get(0, 0, 1)", got.get("get(0, 0, 1)"), 99);
            due.is("lose(2)", got.get("lose(2)"), Edges.NULL);
            for (String row : want.keySet()) {
                if (!row.startsWith("get") && !row.startsWith("lose")) {
                    due.is("behind them " + row, got.get(row), want.get(row));
                }
            }
        });
        edges.edge("price() changes that STRETCH alone", due -> {
            OvenHouse x = rich();
            x.price(4, -7, 9);
            long apart = x.digest() - rich().digest();
            long up = 1;
            for (int i = 0; i < 7; i++) {
                up *= 31;
            }
            due.is("the digest is another by", apart, -10 * up + 7 * (up / 31));
            x.price(4, 3, 2);
            Map<String, Long> want = picture(rich());
            Map<String, Long> got = picture(x);
            for (String row : want.keySet()) {
                due.is("behind it " + row, got.get(row), want.get(row));
            }
        });
        edges.edge("the greatest and least ints: no call throws", due -> {
            OvenHouse x = rich();
            int[] far = {MIN, MAX};
            for (int a : far) {
                for (int b : far) {
                    due.is("sheet", x.sheet(a, b, a), BAD);
                    due.is("put", x.put(a, b, a, b), BAD);
                    due.is("get", x.get(a, b, a), MIN);
                    due.is("copy", x.copy(a, b, a, b, a), BAD);
                    due.is("take", x.take(a, b, a), BAD);
                    due.is("loaf", x.loaf(a, b), BAD);
                    due.is("of", x.of(a, b), BAD);
                    due.is("heat", x.heat(a, b, a), BAD);
                    due.is("price", x.price(a, b, a), BAD);
                    due.is("swap", x.swap(a, b), BAD);
                    due.is("day", x.day(a, b), BAD);
                    due.is("moment", x.moment(a, b, a, b), BAD);
                    due.is("idle", x.idle(a, b), BAD);
                    due.is("least", x.least(a, b), BAD);
                    due.is("second", x.second(a, b), BAD);
                    due.is("better", x.better(a, b), BAD);
                }
                due.is("lose", x.lose(a), BAD);
                due.is("at", x.at(a), NONE);
                due.is("best", x.best(a), NONE);
                due.is("rings", x.rings(a), BAD);
                due.is("batches", x.batches(a), BAD);
                due.is("count", x.count(a), BAD);
            }
            due.is("digest()", x.digest(), rich().digest());
        });
    }
}
