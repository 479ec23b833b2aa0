import java.util.ArrayList;
import java.util.Arrays;
import java.util.Comparator;
import java.util.HashMap;
import java.util.List;
import java.util.Map;

/**
 * The document once more, by other ways than the class takes: days moment by moment, prices step by
 * step, all rows by recursion, states kept whole. Slow, and free of the language's rules.
 */
final class Model {
    private static final int NONE = -1, BAD = -2, FULL = -3, SPENT = -4, NOT = -5;

    private record Loaf(int mix, int bake, int from, int to) { }

    private record State(List<Loaf> loaves, List<Integer> order) { }

    /** All rows of 0 to 7 LOAVES, when they are asked for. */
    private static final Map<Integer, List<List<Integer>>> ROWS = new HashMap<>();

    private List<Loaf> loaves = new ArrayList<>();
    private List<Integer> order = new ArrayList<>();
    private final List<State> states = new ArrayList<>();
    private final int[][] prices = new int[8][2];
    private final Object[] sheets = new Object[4];
    private List<Integer> best = List.of();
    private boolean usable = false;
    private int[] rings = null;
    private int latestFinding = 0;

    private int finding(int number) {
        latestFinding = number;
        return -10 - number;
    }

    private static boolean in(int v, int low, int high) {
        return low <= v && v <= high;
    }

    private static int sizeOf(Object sheet) {
        return java.lang.reflect.Array.getLength(sheet);
    }

    private static int formOf(Object sheet) {
        return sheet instanceof byte[] ? 0 : sheet instanceof short[] ? 1 : 2;
    }

    private static int itemOf(Object sheet, int i) {
        return java.lang.reflect.Array.getInt(sheet, i);
    }

    int sheet(int s, int form, int n) {
        if (!in(s, 0, 3) || !in(form, 0, 2) || n > 40) {
            return BAD;
        }
        if (n < 0) {
            return finding(5);
        }
        sheets[s] = form == 0 ? new byte[n] : form == 1 ? new short[n] : new int[n];
        return n;
    }

    int lose(int s) {
        if (!in(s, 0, 3)) {
            return BAD;
        }
        if (sheets[s] == null) {
            return finding(1);
        }
        int n = sizeOf(sheets[s]);
        sheets[s] = null;
        return n;
    }

    private int itemFinding(int s, int form, int i) {
        if (sheets[s] == null) {
            return 1;
        }
        if (formOf(sheets[s]) != form) {
            return 3;
        }
        return in(i, 0, sizeOf(sheets[s]) - 1) ? 0 : 2;
    }

    int put(int s, int form, int i, int v) {
        if (!in(s, 0, 3) || !in(form, 0, 2)) {
            return BAD;
        }
        int number = itemFinding(s, form, i);
        if (number != 0) {
            return finding(number);
        }
        if (sheets[s] instanceof byte[] bytes) {
            bytes[i] = (byte) v;
        } else if (sheets[s] instanceof short[] shorts) {
            shorts[i] = (short) v;
        } else {
            ((int[]) sheets[s])[i] = v;
        }
        return 1;
    }

    int get(int s, int form, int i) {
        if (!in(s, 0, 3) || !in(form, 0, 2)) {
            return Integer.MIN_VALUE;
        }
        int number = itemFinding(s, form, i);
        if (number != 0) {
            finding(number);
            return Integer.MIN_VALUE;
        }
        return itemOf(sheets[s], i);
    }

    private static boolean inside(Object sheet, long from, long n) {
        return from >= 0 && n >= 0 && from + n <= sizeOf(sheet);
    }

    int copy(int s, int i, int t, int j, int n) {
        if (!in(s, 0, 3) || !in(t, 0, 3)) {
            return BAD;
        }
        if (sheets[s] == null || sheets[t] == null) {
            return finding(1);
        }
        if (formOf(sheets[s]) != formOf(sheets[t])) {
            return finding(4);
        }
        if (!inside(sheets[s], i, n) || !inside(sheets[t], j, n)) {
            return finding(2);
        }
        int[] was = new int[n];
        for (int a = 0; a < n; a++) {
            was[a] = itemOf(sheets[s], i + a);
        }
        for (int a = 0; a < n; a++) {
            put(t, formOf(sheets[t]), j + a, was[a]);
        }
        return 1;
    }

    int take(int s, int t, int n) {
        if (!in(s, 0, 3) || !in(t, 0, 3) || !in(n, 1, 40)) {
            return BAD;
        }
        if (loaves.size() + n > 40) {
            return FULL;
        }
        if (sheets[s] == null || sheets[t] == null) {
            return finding(1);
        }
        if (sizeOf(sheets[s]) < n || sizeOf(sheets[t]) < n) {
            return finding(2);
        }
        for (int a = 0; a < n; a++) {
            if (!in(itemOf(sheets[s], a), 0, 100000) || !in(itemOf(sheets[t], a), 0, 100000)) {
                return BAD;
            }
        }
        remember();
        for (int a = 0; a < n; a++) {
            order.add(loaves.size());
            loaves.add(new Loaf(itemOf(sheets[s], a), itemOf(sheets[t], a), 0, 0));
        }
        usable = false;
        return loaves.size();
    }

    private void remember() {
        states.add(new State(new ArrayList<>(loaves), new ArrayList<>(order)));
        if (states.size() > 5) {
            states.remove(0);
        }
    }

    int loaf(int mix, int bake) {
        if (!in(mix, 0, 100000) || !in(bake, 0, 100000)) {
            return BAD;
        }
        if (loaves.size() == 40) {
            return FULL;
        }
        remember();
        loaves.add(new Loaf(mix, bake, 0, 0));
        order.add(loaves.size() - 1);
        usable = false;
        return loaves.size() - 1;
    }

    int of(int loaf, int what) {
        if (!in(loaf, 0, loaves.size() - 1) || !in(what, 0, 5)) {
            return BAD;
        }
        Loaf l = loaves.get(loaf);
        int kind = l.mix == 0 ? 3 : l.bake == 0 ? 4 : l.mix > l.bake ? 2 : 1;
        return new int[] {l.mix, l.bake, l.from, l.to, kind, order.indexOf(loaf)}[what];
    }

    int heat(int loaf, int from, int to) {
        if (!in(loaf, 0, loaves.size() - 1) || !in(from, 0, 399) || !in(to, 0, 399)) {
            return BAD;
        }
        remember();
        Loaf l = loaves.get(loaf);
        loaves.set(loaf, new Loaf(l.mix, l.bake, from, to));
        return 1;
    }

    int price(int stretch, int up, int down) {
        if (!in(stretch, 0, 7) || !in(up, -100, 100) || !in(down, -100, 100)) {
            return BAD;
        }
        prices[stretch] = new int[] {up, down};
        return 1;
    }

    int at(int place) {
        return in(place, 0, order.size() - 1) ? order.get(place) : NONE;
    }

    int swap(int i, int j) {
        if (!in(i, 0, order.size() - 1) || !in(j, 0, order.size() - 1)) {
            return BAD;
        }
        remember();
        java.util.Collections.swap(order, i, j);
        return 1;
    }

    private List<Integer> byRule() {
        List<Integer> quick = new ArrayList<>();
        List<Integer> slow = new ArrayList<>();
        for (int i = 0; i < loaves.size(); i++) {
            (loaves.get(i).mix <= loaves.get(i).bake ? quick : slow).add(i);
        }
        quick.sort(Comparator.comparingInt(i -> loaves.get(i).mix));
        slow.sort(Comparator.comparingInt(i -> -loaves.get(i).bake));
        quick.addAll(slow);
        return quick;
    }

    int rule() {
        remember();
        order = byRule();
        return end(order, 1, 0);
    }

    int use() {
        if (!usable) {
            return NOT;
        }
        remember();
        order = new ArrayList<>(best);
        return 1;
    }

    int turn() {
        remember();
        loaves.replaceAll(l -> new Loaf(l.bake, l.mix, l.to, l.from));
        java.util.Collections.reverse(order);
        usable = false;
        return 1;
    }

    int undo() {
        if (states.isEmpty()) {
            return NOT;
        }
        State state = states.remove(states.size() - 1);
        loaves = state.loaves;
        order = state.order;
        usable = false;
        return states.size();
    }

    /** Of each place: the moments mixing begins, ends, baking begins, ends. */
    private List<int[]> moments(List<Integer> row, int law, int k) {
        List<int[]> told = new ArrayList<>();
        int mixer = 0;
        int oven = 0;
        for (int number : row) {
            Loaf l = loaves.get(number);
            int start = mixer;
            if (law == 0 && start + l.mix < oven) {
                start = oven - l.mix;
            }
            int ready = start + l.mix;
            int bakes = ready < oven ? oven : ready;
            mixer = ready;
            if (law == 2 && told.size() >= k) {
                int begun = told.get(told.size() - k)[2];
                mixer = begun > mixer ? begun : mixer;
            }
            oven = bakes + l.bake;
            told.add(new int[] {start, ready, bakes, oven});
        }
        return told;
    }

    private int end(List<Integer> row, int law, int k) {
        List<int[]> told = moments(row, law, k);
        return told.isEmpty() ? 0 : told.get(told.size() - 1)[3];
    }

    private static boolean law(int law, int k) {
        return law == 2 ? in(k, 1, 5) : in(law, 0, 1) && k == 0;
    }

    int day(int law, int k) {
        return law(law, k) ? end(order, law, k) : BAD;
    }

    int moment(int law, int k, int place, int what) {
        if (!law(law, k) || !in(place, 0, order.size() - 1) || !in(what, 0, 3)) {
            return BAD;
        }
        return moments(order, law, k).get(place)[what];
    }

    int idle(int law, int k) {
        if (!law(law, k)) {
            return BAD;
        }
        int idle = 0;
        int until = 0;
        for (int[] m : moments(order, law, k)) {
            idle += m[2] - until;
            until = m[3];
        }
        return idle;
    }

    int bound() {
        if (loaves.isEmpty()) {
            return 0;
        }
        int mix = count(1) + loaves.stream().mapToInt(Loaf::bake).min().getAsInt();
        int bake = count(2) + loaves.stream().mapToInt(Loaf::mix).min().getAsInt();
        return mix > bake ? mix : bake;
    }

    private static void rowsFrom(List<Integer> row, int n, List<List<Integer>> all) {
        if (row.size() == n) {
            all.add(new ArrayList<>(row));
        }
        for (int next = 0; next < n; next++) {
            if (!row.contains(next)) {
                row.add(next);
                rowsFrom(row, n, all);
                row.remove(row.size() - 1);
            }
        }
    }

    private List<List<Integer>> allRows() {
        int n = loaves.size();
        if (!ROWS.containsKey(n)) {
            ROWS.put(n, new ArrayList<>());
            rowsFrom(new ArrayList<>(), n, ROWS.get(n));
        }
        return ROWS.get(n);
    }

    private void found(List<Integer> row) {
        best = row;
        usable = true;
    }

    int least(int law, int k) {
        if (!law(law, k)) {
            return BAD;
        }
        if (law == 0) {
            return leastAtOnce();
        }
        if (law == 1) {
            found(byRule());
            return end(best, 1, 0);
        }
        if (loaves.size() > 7) {
            return SPENT;
        }
        List<Integer> first = null;
        for (List<Integer> row : allRows()) {
            if (first == null || end(row, law, k) < end(first, law, k)) {
                first = row;
            }
        }
        found(first);
        return end(first, law, k);
    }

    /** The least END of all rows, whatever the law: what least() is to answer. */
    int leastOfAll(int law, int k) {
        return allRows().stream().mapToInt(row -> end(row, law, k)).min().getAsInt();
    }

    int size() {
        return loaves.size();
    }

    int second(int law, int k) {
        if (!law(law, k)) {
            return BAD;
        }
        if (loaves.size() <= 1) {
            return NONE;
        }
        if (loaves.size() > 7) {
            return SPENT;
        }
        return allRows().stream().filter(row -> !row.equals(order))
                .mapToInt(row -> end(row, law, k)).min().getAsInt();
    }

    int better(int law, int k) {
        if (!law(law, k)) {
            return BAD;
        }
        remember();
        int all = 0;
        for (int once = 1; once > 0; all += once) {
            once = 0;
            for (int place = 0; place < order.size() - 1; place++) {
                List<Integer> other = new ArrayList<>(order);
                java.util.Collections.swap(other, place, place + 1);
                if (end(other, law, k) < end(order, law, k)) {
                    order = other;
                    once++;
                }
            }
        }
        return all;
    }

    int best(int place) {
        return in(place, 0, best.size() - 1) ? best.get(place) : NONE;
    }

    int rings(int what) {
        return rings != null && in(what, 0, 3) ? rings[what] : BAD;
    }

    /** Step by step; AT ONCE has too many of them, each 1 up and 0 down. */
    private int way(int x, int y, boolean heats) {
        if (!heats) {
            return y > x ? y - x : 0;
        }
        int sum = 0;
        for (int d = x; d < y; d++) {
            sum += prices[d / 50][0];
        }
        for (int d = x; d > y; d--) {
            sum += prices[(d - 1) / 50][1];
        }
        return sum;
    }

    private static List<Integer> sorted(int n, Comparator<Integer> by) {
        List<Integer> all = new ArrayList<>();
        for (int i = 0; i < n; i++) {
            all.add(i);
        }
        all.sort(by.thenComparing(Comparator.naturalOrder()));
        return all;
    }

    private static int rootOf(int[] parents, int i) {
        return parents[i] == i ? i : rootOf(parents, parents[i]);
    }

    private int roundCost(int[] q, int[] p, int[] behind, boolean heats) {
        int sum = 0;
        for (int i = 0; i < q.length; i++) {
            sum += way(p[i], q[behind[i]], heats);
        }
        return sum;
    }

    /** What comes behind each point in THE ROUND. */
    private int[] ringsOf(int[] q, int[] p, boolean heats) {
        int n = q.length;
        List<Integer> u = sorted(n, Comparator.comparingInt(i -> p[i]));
        List<Integer> v = sorted(n, Comparator.comparingInt(i -> q[i]));
        int[] behind = new int[n];
        int[] parents = new int[n];
        for (int i = 0; i < n; i++) {
            behind[u.get(i)] = v.get(i);
            parents[i] = i;
        }
        int ringCount = n;
        for (int i = 0; i < n; i++) {
            int a = rootOf(parents, i);
            int b = rootOf(parents, behind[i]);
            if (a != b) {
                parents[a] = b;
                ringCount--;
            }
        }
        rings = new int[] {ringCount, roundCost(q, p, behind, heats), 0, 0};
        int[] weights = new int[n];
        for (int k = 0; k + 1 < n; k++) {
            int low = Math.max(p[u.get(k)], q[v.get(k)]);
            int high = Math.min(p[u.get(k + 1)], q[v.get(k + 1)]);
            weights[k] = high <= low ? 0 : way(low, high, heats) + way(high, low, heats);
        }
        List<Integer> first = new ArrayList<>();
        List<Integer> others = new ArrayList<>();
        for (int k : sorted(n - 1, Comparator.comparingInt(k -> weights[k]))) {
            int a = rootOf(parents, u.get(k));
            int b = rootOf(parents, u.get(k + 1));
            if (a != b) {
                parents[a] = b;
                rings[2]++;
                rings[3] += weights[k];
                (p[u.get(k)] <= q[v.get(k)] ? first : others).add(k);
            }
        }
        first.sort(Comparator.reverseOrder());
        others.sort(Comparator.naturalOrder());
        first.addAll(others);
        for (int k : first) {
            int held = behind[u.get(k)];
            behind[u.get(k)] = behind[u.get(k + 1)];
            behind[u.get(k + 1)] = held;
        }
        return behind;
    }

    private void foundFrom(int start, int[] behind) {
        List<Integer> row = new ArrayList<>();
        for (int point = start; row.size() < loaves.size(); point = behind[point]) {
            row.add(point);
        }
        if (row.stream().distinct().count() != row.size()) {
            throw new IllegalStateException("not one ring: " + row);
        }
        found(row);
    }

    private int leastAtOnce() {
        int n = loaves.size();
        int[] q = Arrays.copyOf(loaves.stream().mapToInt(Loaf::mix).toArray(), n + 1);
        int[] p = Arrays.copyOf(loaves.stream().mapToInt(Loaf::bake).toArray(), n + 1);
        int[] behind = ringsOf(q, p, false);
        foundFrom(behind[n], behind);
        return count(2) + roundCost(q, p, behind, false);
    }

    private int costOf(List<Integer> row) {
        int sum = 0;
        for (int place = 0; place < row.size(); place++) {
            int next = row.get((place + 1) % row.size());
            sum += way(loaves.get(row.get(place)).to, loaves.get(next).from, true);
        }
        return sum;
    }

    int cost() {
        return costOf(order);
    }

    int round() {
        if (loaves.isEmpty() || Arrays.stream(prices).anyMatch(p -> p[0] + p[1] < 0)) {
            return NOT;
        }
        int[] q = loaves.stream().mapToInt(Loaf::from).toArray();
        int[] p = loaves.stream().mapToInt(Loaf::to).toArray();
        int[] behind = ringsOf(q, p, true);
        foundFrom(0, behind);
        return costOf(best);
    }

    int through() {
        if (loaves.isEmpty()) {
            return NOT;
        }
        if (loaves.size() > 8) {
            return SPENT;
        }
        List<List<Integer>> all = new ArrayList<>();
        rowsFrom(new ArrayList<>(List.of(0)), loaves.size(), all);
        return all.stream().mapToInt(this::costOf).min().getAsInt();
    }

    int batches(int size) {
        if (!in(size, 1, 40)) {
            return BAD;
        }
        List<Integer> bakes = new ArrayList<>(loaves.stream().map(Loaf::bake).toList());
        bakes.sort(Comparator.reverseOrder());
        int sum = 0;
        for (int i = 0; i < bakes.size(); i++) {
            sum += i % size == 0 ? bakes.get(i) : 0;
        }
        return sum;
    }

    int count(int what) {
        switch (what) {
            case 0:
                return loaves.size();
            case 1:
                return loaves.stream().mapToInt(Loaf::mix).sum();
            case 2:
                return loaves.stream().mapToInt(Loaf::bake).sum();
            case 3:
                return usable ? 1 : 0;
            case 4:
                return states.size();
            case 5:
                return latestFinding;
            default:
                return BAD;
        }
    }

    long digest() {
        List<Integer> all = new ArrayList<>();
        for (int i = 0; i < loaves.size(); i++) {
            for (int what = 0; what < 6; what++) {
                all.add(of(i, what));
            }
        }
        all.addAll(order);
        for (int[] each : prices) {
            all.add(each[0]);
            all.add(each[1]);
        }
        return all.stream().mapToLong(i -> i).reduce(17, (h, i) -> 31 * h + i);
    }
}
