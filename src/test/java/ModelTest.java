/** Runs of 512 calls on the class and on the Model, with numbers from a fixed row: always the same. */
public final class ModelTest {
    private static final Due due = new Due("ModelTest");
    private static final int RUNS = 140, CALLS = 512;

    private OvenHouse x = new OvenHouse();
    private Model y = new Model();
    private long seed;
    private int spanMost;
    private int priceLeast;
    private int loavesMost;
    private final int run;

    private ModelTest(int run) {
        this.run = run;
        seed = run * 7919L + 17;
        int[] spans = {3, 10, 50, 1000, 100000};
        spanMost = spans[run % 5];
        priceLeast = run % 3 == 0 ? -5 : 0;
        // Most runs stay among the loaves that all rows can be gone through with.
        int[] most = {3, 5, 6, 7, 8, 9, 40};
        loavesMost = most[run % 7];
    }

    public static void main(String[] args) {
        for (int run = 0; run < RUNS; run++) {
            new ModelTest(run).go();
        }
        due.finish();
    }

    private int below(int n) {
        seed = seed * 6364136223846793005L + 1442695040888963407L;
        return (int) ((seed >>> 33) % n);
    }

    /** Mostly from low to high, at times just outside or far off. */
    private int about(int low, int high) {
        switch (below(60)) {
            case 0:
                return low - 1;
            case 1:
                return high + 1;
            case 2:
                return new int[] {Integer.MIN_VALUE, Integer.MAX_VALUE, -1, 41}[below(4)];
            case 3:
                return low;
            case 4:
                return high;
            default:
                return low + below(high - low + 1);
        }
    }

    private int span() {
        int span = about(0, spanMost);
        return below(9) == 0 ? 0 : span;
    }

    private void same(String call, long got, long want) {
        due.is("run " + run + ": " + call, got, want);
    }

    private void go() {
        for (int call = 0; call < CALLS; call += 2) {
            int kind = below(10);
            if (kind < 2) {
                callOnSheets();
            } else if (kind < 6) {
                callOnLoaves();
            } else {
                callOnDays();
            }
            same("digest at call " + call, x.digest(), y.digest());
        }
    }

    private void callOnSheets() {
        int s = about(0, 3);
        int t = about(0, 3);
        int form = about(0, 2);
        int i = about(0, 5);
        int n = about(0, 6);
        switch (below(7)) {
            case 0:
                same("sheet", x.sheet(s, form, n), y.sheet(s, form, n));
                break;
            case 1:
                if (below(3) == 0) {
                    same("lose", x.lose(s), y.lose(s));
                }
                break;
            case 2:
            case 3:
                int v = below(4) == 0 ? (int) (seed >>> 20) : span();
                same("put", x.put(s, form, i, v), y.put(s, form, i, v));
                break;
            case 4:
                same("get", x.get(s, form, i), y.get(s, form, i));
                break;
            case 5:
                int j = about(0, 3);
                int many = about(0, 4);
                same("copy", x.copy(s, i, t, j, many), y.copy(s, i, t, j, many));
                break;
            default:
                if (y.size() + n <= loavesMost || loavesMost == 40) {
                    same("take", x.take(s, t, n), y.take(s, t, n));
                }
                break;
        }
        same("finding", x.count(5), y.count(5));
    }

    private void callOnLoaves() {
        int n = y.size();
        int a = about(0, Math.max(0, n - 1));
        int b = about(0, Math.max(0, n - 1));
        switch (below(14)) {
            case 0:
            case 1:
            case 2:
                int mix = span();
                int bake = span();
                if (n < loavesMost || loavesMost == 40) {
                    same("loaf", x.loaf(mix, bake), y.loaf(mix, bake));
                }
                break;
            case 3:
                int what = about(0, 5);
                same("of", x.of(a, what), y.of(a, what));
                break;
            case 4:
            case 5:
            case 6:
                int from = about(0, 399);
                int to = below(5) == 0 ? from : about(0, 399);
                same("heat", x.heat(a, from, to), y.heat(a, from, to));
                break;
            case 7:
                int stretch = about(0, 7);
                int up = about(priceLeast, 9);
                int down = priceLeast < 0 && below(2) == 0 ? -up : about(priceLeast, 9);
                same("price", x.price(stretch, up, down), y.price(stretch, up, down));
                break;
            case 8:
                same("at", x.at(a), y.at(a));
                break;
            case 9:
                same("swap", x.swap(a, b), y.swap(a, b));
                break;
            case 10:
                same("rule", x.rule(), y.rule());
                break;
            case 11:
                same("use", x.use(), y.use());
                break;
            case 12:
                same("turn", x.turn(), y.turn());
                break;
            default:
                same("undo", x.undo(), y.undo());
                break;
        }
        same("count", x.count(4), y.count(4));
    }

    private void callOnDays() {
        int law = about(0, 2);
        int k = law == 2 ? about(1, 5) : about(0, 0);
        int place = about(0, Math.max(0, y.size() - 1));
        String by = " " + law + " " + k;
        switch (below(16)) {
            case 0:
                same("day" + by, x.day(law, k), y.day(law, k));
                break;
            case 1:
                int what = about(0, 3);
                same("moment" + by, x.moment(law, k, place, what), y.moment(law, k, place, what));
                break;
            case 2:
                same("idle" + by, x.idle(law, k), y.idle(law, k));
                break;
            case 3:
                same("bound", x.bound(), y.bound());
                break;
            case 4:
            case 5:
                least(law, k);
                break;
            case 6:
                same("second" + by, x.second(law, k), y.second(law, k));
                break;
            case 7:
                same("better" + by, x.better(law, k), y.better(law, k));
                break;
            case 8:
                same("best", x.best(place), y.best(place));
                break;
            case 9:
                int ring = about(0, 3);
                same("rings", x.rings(ring), y.rings(ring));
                break;
            case 10:
                same("cost", x.cost(), y.cost());
                break;
            case 11:
            case 12:
                round();
                break;
            case 13:
                same("through", x.through(), y.through());
                break;
            case 14:
                int size = about(1, 40);
                same("batches", x.batches(size), y.batches(size));
                break;
            default:
                int number = about(0, 5);
                same("count", x.count(number), y.count(number));
                break;
        }
    }

    private void bestAndRings(String call) {
        for (int place = 0; place <= y.size(); place++) {
            same(call + ", best", x.best(place), y.best(place));
        }
        for (int what = 0; what < 4; what++) {
            same(call + ", rings", x.rings(what), y.rings(what));
        }
    }

    private void least(int law, int k) {
        String call = "least " + law + " " + k;
        int end = x.least(law, k);
        same(call, end, y.least(law, k));
        bestAndRings(call);
        if (end >= 0 && y.size() <= 6) {
            same(call + " of all rows", end, y.leastOfAll(law, k));
        }
        if (end >= 0 && below(2) == 0) {
            same("use", x.use(), y.use());
            same(call + ", its day", x.day(law, k), end);
        }
    }

    private void round() {
        int cost = x.round();
        same("round", cost, y.round());
        bestAndRings("round");
        if (y.size() > 0 && y.size() <= 8 && cost != OvenHouse.NOT) {
            same("round of all rounds", cost, y.through());
        }
    }
}
