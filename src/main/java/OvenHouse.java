import java.util.Arrays;

/** A bakery with a mixer and an oven; ../shared/DOC.md tells what each call answers. */
public final class OvenHouse {
    public static final int NONE = -1, BAD = -2, FULL = -3, SPENT = -4, NOT = -5;

    private static final int LEAST_INT = -2147483648, GREATEST_INT = 2147483647;
    private static final int LOAVES_MOST = 40, SPAN_MOST = 100000, DEGREE_MOST = 399;
    private static final int STRETCHES = 8, STRETCH_STEPS = 50, PRICE_MOST = 100;
    private static final int AT_ONCE = 0, SHELF = 1, PLACES = 2, PLACES_MOST = 5;
    private static final int KEPT_MOST = 5;
    private static final int ALL_ROWS_LOAVES = 7, ALL_ROUNDS_LOAVES = 8, ROWS_MOST = 5040;
    // Far above the passes that better() can need, as each one shortens the day.
    private static final int PASSES_MOST = 1000000;
    private static final int SHEETS = 4, FORMS = 3, ITEMS_MOST = 40, LOST = -1;
    private static final int NULL = 1, INDEX = 2, CAST = 3, STORE = 4, SIZE = 5;

    private final Sheets sheets;
    private final Loaves loaves;
    private final History history;
    private final Best found;
    private final Day schedule;
    private final Rings circles;
    private final Rows rows;
    private final Prices heats;
    private final Prices waits;
    private final int[] scratch;
    private final int[][] ways;

    public OvenHouse() {
        sheets = new Sheets();
        loaves = new Loaves();
        history = new History();
        found = new Best();
        schedule = new Day();
        circles = new Rings();
        rows = new Rows();
        heats = new Prices(0);
        waits = new Prices(1);
        scratch = new int[LOAVES_MOST];
        ways = new int[ALL_ROUNDS_LOAVES][ALL_ROUNDS_LOAVES];
    }

    // ---- sheets

    public int sheet(int s, int form, int n) {
        if (!isSheet(s) || !isForm(form) || n > ITEMS_MOST) {
            return BAD;
        }
        if (n < 0) {
            return sheets.finding(SIZE);
        }
        sheets.renew(s, form, n);
        return n;
    }

    public int lose(int s) {
        if (!isSheet(s)) {
            return BAD;
        }
        if (sheets.isLost(s)) {
            return sheets.finding(NULL);
        }
        sheets.forms[s] = LOST;
        return sheets.sizes[s];
    }

    public int put(int s, int form, int i, int v) {
        if (!isSheet(s) || !isForm(form)) {
            return BAD;
        }
        int number = sheets.lookAt(s, form, i);
        if (number != 0) {
            return sheets.finding(number);
        }
        sheets.items[s][i] = cutToForm(form, v);
        return 1;
    }

    public int get(int s, int form, int i) {
        if (!isSheet(s) || !isForm(form)) {
            return LEAST_INT;
        }
        int number = sheets.lookAt(s, form, i);
        if (number != 0) {
            sheets.finding(number);
            return LEAST_INT;
        }
        return sheets.items[s][i];
    }

    public int copy(int s, int i, int t, int j, int n) {
        if (!isSheet(s) || !isSheet(t)) {
            return BAD;
        }
        if (sheets.isLost(s) || sheets.isLost(t)) {
            return sheets.finding(NULL);
        }
        if (sheets.forms[s] != sheets.forms[t]) {
            return sheets.finding(STORE);
        }
        if (!sheets.hasItems(s, i, n) || !sheets.hasItems(t, j, n)) {
            return sheets.finding(INDEX);
        }
        System.arraycopy(sheets.items[s], i, sheets.items[t], j, n);
        return 1;
    }

    public int take(int s, int t, int n) {
        if (!isSheet(s) || !isSheet(t) || n < 1 || n > LOAVES_MOST) {
            return BAD;
        }
        if (loaves.size + n > LOAVES_MOST) {
            return FULL;
        }
        if (sheets.isLost(s) || sheets.isLost(t)) {
            return sheets.finding(NULL);
        }
        if (!sheets.hasItems(s, 0, n) || !sheets.hasItems(t, 0, n)) {
            return sheets.finding(INDEX);
        }
        if (!areSpans(sheets.items[s], n) || !areSpans(sheets.items[t], n)) {
            return BAD;
        }
        history.keep(loaves);
        for (int i = 0; i < n; i++) {
            loaves.add(sheets.items[s][i], sheets.items[t][i]);
        }
        found.fresh = false;
        return loaves.size;
    }

    // ---- loaves, the order

    public int loaf(int mix, int bake) {
        if (!isSpan(mix) || !isSpan(bake)) {
            return BAD;
        }
        if (loaves.size >= LOAVES_MOST) {
            return FULL;
        }
        history.keep(loaves);
        loaves.add(mix, bake);
        found.fresh = false;
        return loaves.size - 1;
    }

    public int of(int loaf, int what) {
        if (!loaves.has(loaf)) {
            return BAD;
        }
        switch (what) {
            case 0:
                return loaves.mix[loaf];
            case 1:
                return loaves.bake[loaf];
            case 2:
                return loaves.from[loaf];
            case 3:
                return loaves.to[loaf];
            case 4:
                return loaves.kindOf(loaf);
            case 5:
                return loaves.placeOf(loaf);
            default:
                return BAD;
        }
    }

    public int heat(int loaf, int from, int to) {
        if (!loaves.has(loaf) || !isDegree(from) || !isDegree(to)) {
            return BAD;
        }
        history.keep(loaves);
        loaves.from[loaf] = from;
        loaves.to[loaf] = to;
        return 1;
    }

    public int price(int stretch, int up, int down) {
        if (stretch < 0 || stretch >= STRETCHES || !isPrice(up) || !isPrice(down)) {
            return BAD;
        }
        heats.up[stretch] = up;
        heats.down[stretch] = down;
        return 1;
    }

    public int at(int place) {
        return loaves.has(place) ? loaves.order[place] : NONE;
    }

    public int swap(int i, int j) {
        if (!loaves.has(i) || !loaves.has(j)) {
            return BAD;
        }
        history.keep(loaves);
        exchange(loaves.order, i, j);
        return 1;
    }

    public int rule() {
        history.keep(loaves);
        loaves.byRule(loaves.order);
        schedule.follow(SHELF, 0);
        return schedule.endOf(loaves, loaves.order, 0);
    }

    public int use() {
        if (!found.fresh) {
            return NOT;
        }
        history.keep(loaves);
        System.arraycopy(found.row, 0, loaves.order, 0, found.size);
        return 1;
    }

    public int turn() {
        history.keep(loaves);
        loaves.turnAbout();
        found.fresh = false;
        return 1;
    }

    public int undo() {
        if (history.held == 0) {
            return NOT;
        }
        history.giveBack(loaves);
        found.fresh = false;
        return history.held;
    }

    // ---- days

    public int day(int law, int k) {
        if (!isLaw(law, k)) {
            return BAD;
        }
        schedule.follow(law, k);
        return schedule.endOf(loaves, loaves.order, 0);
    }

    public int moment(int law, int k, int place, int what) {
        if (!isLaw(law, k) || !loaves.has(place)) {
            return BAD;
        }
        schedule.follow(law, k);
        schedule.endOf(loaves, loaves.order, 0);
        switch (what) {
            case 0:
                return schedule.mixFrom[place];
            case 1:
                return schedule.mixTo[place];
            case 2:
                return schedule.bakeFrom[place];
            case 3:
                return schedule.bakeTo[place];
            default:
                return BAD;
        }
    }

    public int idle(int law, int k) {
        if (!isLaw(law, k)) {
            return BAD;
        }
        schedule.follow(law, k);
        return schedule.endOf(loaves, loaves.order, 0) - loaves.sum(loaves.bake);
    }

    public int bound() {
        if (loaves.size == 0) {
            return 0;
        }
        return Math.max(loaves.sum(loaves.mix) + loaves.leastOf(loaves.bake),
                loaves.sum(loaves.bake) + loaves.leastOf(loaves.mix));
    }

    public int least(int law, int k) {
        if (!isLaw(law, k)) {
            return BAD;
        }
        if (law == PLACES && loaves.size > ALL_ROWS_LOAVES) {
            return SPENT;
        }
        if (law == AT_ONCE) {
            return leastByRings();
        }
        schedule.follow(law, k);
        int end;
        if (law == SHELF) {
            loaves.byRule(scratch);
            end = schedule.endOf(loaves, scratch, 0);
        } else {
            end = leastOfAllRows(false);
        }
        found.become(scratch, loaves.size);
        return end;
    }

    public int second(int law, int k) {
        if (!isLaw(law, k)) {
            return BAD;
        }
        if (loaves.size < 2) {
            return NONE;
        }
        if (loaves.size > ALL_ROWS_LOAVES) {
            return SPENT;
        }
        schedule.follow(law, k);
        return leastOfAllRows(true);
    }

    public int better(int law, int k) {
        if (!isLaw(law, k)) {
            return BAD;
        }
        history.keep(loaves);
        schedule.follow(law, k);
        int all = 0;
        int more = 1;
        for (int pass = 0; pass < PASSES_MOST && more > 0; pass++) {
            more = passOfNeighbours();
            all += more;
        }
        return all;
    }

    public int best(int place) {
        return place >= 0 && place < found.size ? found.row[place] : NONE;
    }

    public int rings(int what) {
        if (!circles.told) {
            return BAD;
        }
        switch (what) {
            case 0:
                return circles.pairingRings;
            case 1:
                return circles.pairingCost;
            case 2:
                return circles.joinsTaken;
            case 3:
                return circles.joinsWeight;
            default:
                return BAD;
        }
    }

    // ---- heats, batches

    public int cost() {
        int sum = 0;
        for (int place = 0; place < loaves.size; place++) {
            int next = place + 1 < loaves.size ? place + 1 : 0;
            sum += wayBetween(loaves.order[place], loaves.order[next]);
        }
        return sum;
    }

    public int round() {
        if (loaves.size == 0 || heats.hasLossyStretch()) {
            return NOT;
        }
        circles.points = loaves.size;
        System.arraycopy(loaves.from, 0, circles.q, 0, loaves.size);
        System.arraycopy(loaves.to, 0, circles.p, 0, loaves.size);
        int sum = circles.joinAll(heats);
        circles.rowFrom(0, scratch, loaves.size);
        found.become(scratch, loaves.size);
        return sum;
    }

    public int through() {
        if (loaves.size == 0) {
            return NOT;
        }
        if (loaves.size > ALL_ROUNDS_LOAVES) {
            return SPENT;
        }
        layWays();
        rows.begin(loaves.size);
        int least = GREATEST_INT;
        // A change at place 0 would end the rows that begin with LOAF 0.
        int changed = 1;
        for (int r = 0; r < ROWS_MOST && changed > 0; r++) {
            least = Math.min(least, roundOfWays(rows.row));
            changed = rows.step();
        }
        return least;
    }

    public int batches(int size) {
        if (size < 1 || size > LOAVES_MOST) {
            return BAD;
        }
        rank(loaves.bake, loaves.size, scratch);
        int sum = 0;
        // The longest together: then no batch's span can be less.
        for (int place = loaves.size - 1; place >= 0; place -= size) {
            sum += loaves.bake[scratch[place]];
        }
        return sum;
    }

    public int count(int what) {
        switch (what) {
            case 0:
                return loaves.size;
            case 1:
                return loaves.sum(loaves.mix);
            case 2:
                return loaves.sum(loaves.bake);
            case 3:
                return found.fresh ? 1 : 0;
            case 4:
                return history.held;
            case 5:
                return sheets.latest;
            default:
                return BAD;
        }
    }

    public long digest() {
        long h = 17;
        for (int loaf = 0; loaf < loaves.size; loaf++) {
            for (int what = 0; what <= 5; what++) {
                h = 31 * h + of(loaf, what);
            }
        }
        for (int place = 0; place < loaves.size; place++) {
            h = 31 * h + loaves.order[place];
        }
        for (int stretch = 0; stretch < STRETCHES; stretch++) {
            h = 31 * h + heats.up[stretch];
            h = 31 * h + heats.down[stretch];
        }
        return h;
    }

    // ---- what numbers are allowed

    private static boolean isSheet(int s) {
        return s >= 0 && s < SHEETS;
    }

    private static boolean isForm(int form) {
        return form >= 0 && form < FORMS;
    }

    private static boolean isSpan(int span) {
        return span >= 0 && span <= SPAN_MOST;
    }

    private static boolean areSpans(int[] items, int n) {
        for (int i = 0; i < n; i++) {
            if (!isSpan(items[i])) {
                return false;
            }
        }
        return true;
    }

    private static boolean isDegree(int degree) {
        return degree >= 0 && degree <= DEGREE_MOST;
    }

    private static boolean isPrice(int each) {
        return each >= -PRICE_MOST && each <= PRICE_MOST;
    }

    private static boolean isLaw(int law, int k) {
        if (law == PLACES) {
            return k >= 1 && k <= PLACES_MOST;
        }
        return (law == AT_ONCE || law == SHELF) && k == 0;
    }

    // ---- helpers

    private static int cutToForm(int form, int v) {
        if (form == 0) {
            return (byte) v;
        }
        return form == 1 ? (short) v : v;
    }

    private static void exchange(int[] row, int i, int j) {
        int held = row[i];
        row[i] = row[j];
        row[j] = held;
    }

    /** The numbers 0 to n - 1 by their keys, the least first, of like ones the lesser number. */
    private static void rank(int[] keys, int n, int[] row) {
        for (int number = 0; number < n; number++) {
            int place = number;
            while (place > 0 && keys[row[place - 1]] > keys[number]) {
                row[place] = row[place - 1];
                place--;
            }
            row[place] = number;
        }
    }

    private int leastByRings() {
        int n = loaves.size;
        circles.points = n + 1;
        System.arraycopy(loaves.mix, 0, circles.q, 0, n);
        System.arraycopy(loaves.bake, 0, circles.p, 0, n);
        circles.q[n] = 0;
        circles.p[n] = 0;
        int sum = circles.joinAll(waits);
        circles.rowFrom(circles.behind[n], scratch, n);
        found.become(scratch, n);
        return loaves.sum(loaves.bake) + sum;
    }

    /** The least END of all rows, perhaps but THE ORDER; the first such row comes to scratch. */
    private int leastOfAllRows(boolean butTheOrder) {
        rows.begin(loaves.size);
        int least = GREATEST_INT;
        int changed = 0;
        for (int r = 0; r < ROWS_MOST && changed >= 0; r++) {
            int end = schedule.endOf(loaves, rows.row, changed);
            if (end < least && !(butTheOrder && loaves.isOrder(rows.row))) {
                least = end;
                System.arraycopy(rows.row, 0, scratch, 0, loaves.size);
            }
            changed = rows.step();
        }
        return least;
    }

    private int passOfNeighbours() {
        int exchanged = 0;
        int end = schedule.endOf(loaves, loaves.order, 0);
        for (int place = 0; place + 1 < loaves.size; place++) {
            exchange(loaves.order, place, place + 1);
            // The place ahead may still hold moments of an exchange that was taken back.
            int other = schedule.endOf(loaves, loaves.order, Math.max(0, place - 1));
            if (other < end) {
                end = other;
                exchanged++;
            } else {
                exchange(loaves.order, place, place + 1);
            }
        }
        return exchanged;
    }

    private int wayBetween(int loaf, int next) {
        return heats.going(loaves.to[loaf], loaves.from[next]);
    }

    private void layWays() {
        for (int loaf = 0; loaf < loaves.size; loaf++) {
            for (int next = 0; next < loaves.size; next++) {
                ways[loaf][next] = wayBetween(loaf, next);
            }
        }
    }

    private int roundOfWays(int[] row) {
        int last = loaves.size - 1;
        int sum = ways[row[last]][row[0]];
        for (int place = 0; place < last; place++) {
            sum += ways[row[place]][row[place + 1]];
        }
        return sum;
    }

    /** The four SHEETS: items of every FORM lie as ints that were cut to it. */
    private static final class Sheets {
        final int[] forms = new int[SHEETS];
        final int[] sizes = new int[SHEETS];
        final int[][] items = new int[SHEETS][ITEMS_MOST];
        int latest = 0;

        Sheets() {
            Arrays.fill(forms, LOST);
        }

        int finding(int number) {
            latest = number;
            return -10 - number;
        }

        boolean isLost(int s) {
            return forms[s] == LOST;
        }

        void renew(int s, int form, int n) {
            forms[s] = form;
            sizes[s] = n;
            Arrays.fill(items[s], 0);
        }

        boolean hasItems(int s, int from, int n) {
            return from >= 0 && n >= 0 && from <= sizes[s] - n;
        }

        /** The number of the FINDING about an item, 0 if there is none. */
        int lookAt(int s, int form, int i) {
            if (isLost(s)) {
                return NULL;
            }
            if (forms[s] != form) {
                return CAST;
            }
            return hasItems(s, i, 1) ? 0 : INDEX;
        }
    }

    /** All LOAVES with THE ORDER: what undo() brings back. */
    private static final class Loaves {
        final int[] mix = new int[LOAVES_MOST];
        final int[] bake = new int[LOAVES_MOST];
        final int[] from = new int[LOAVES_MOST];
        final int[] to = new int[LOAVES_MOST];
        final int[] order = new int[LOAVES_MOST];
        final int[] keys = new int[LOAVES_MOST];
        int size = 0;

        boolean has(int number) {
            return number >= 0 && number < size;
        }

        void add(int mixSpan, int bakeSpan) {
            mix[size] = mixSpan;
            bake[size] = bakeSpan;
            from[size] = 0;
            to[size] = 0;
            order[size] = size;
            size++;
        }

        void become(Loaves other) {
            size = other.size;
            System.arraycopy(other.mix, 0, mix, 0, size);
            System.arraycopy(other.bake, 0, bake, 0, size);
            System.arraycopy(other.from, 0, from, 0, size);
            System.arraycopy(other.to, 0, to, 0, size);
            System.arraycopy(other.order, 0, order, 0, size);
        }

        int kindOf(int loaf) {
            if (mix[loaf] == 0) {
                return 3;
            }
            if (bake[loaf] == 0) {
                return 4;
            }
            return mix[loaf] <= bake[loaf] ? 1 : 2;
        }

        int placeOf(int loaf) {
            for (int place = 0; place < size; place++) {
                if (order[place] == loaf) {
                    return place;
                }
            }
            return NONE;
        }

        int sum(int[] spans) {
            int all = 0;
            for (int loaf = 0; loaf < size; loaf++) {
                all += spans[loaf];
            }
            return all;
        }

        int leastOf(int[] spans) {
            int low = SPAN_MOST;
            for (int loaf = 0; loaf < size; loaf++) {
                low = Math.min(low, spans[loaf]);
            }
            return low;
        }

        boolean isOrder(int[] row) {
            for (int place = 0; place < size; place++) {
                if (row[place] != order[place]) {
                    return false;
                }
            }
            return true;
        }

        void byRule(int[] row) {
            for (int loaf = 0; loaf < size; loaf++) {
                // Keys above every MIX put the others behind; the greatest BAKE has the least.
                keys[loaf] = mix[loaf] <= bake[loaf] ? mix[loaf] : 2 * SPAN_MOST + 1 - bake[loaf];
            }
            rank(keys, size, row);
        }

        void turnAbout() {
            for (int loaf = 0; loaf < size; loaf++) {
                int span = mix[loaf];
                mix[loaf] = bake[loaf];
                bake[loaf] = span;
                int degree = from[loaf];
                from[loaf] = to[loaf];
                to[loaf] = degree;
            }
            for (int place = 0; place < size - 1 - place; place++) {
                exchange(order, place, size - 1 - place);
            }
        }
    }

    /** The LOAVES as they were ahead of the latest calls, in a ring of slots that are used again. */
    private static final class History {
        final Loaves[] slots = new Loaves[KEPT_MOST];
        int next = 0;
        int held = 0;

        History() {
            for (int slot = 0; slot < KEPT_MOST; slot++) {
                slots[slot] = new Loaves();
            }
        }

        void keep(Loaves now) {
            slots[next].become(now);
            next = next + 1 < KEPT_MOST ? next + 1 : 0;
            held = Math.min(held + 1, KEPT_MOST);
        }

        void giveBack(Loaves now) {
            next = next > 0 ? next - 1 : KEPT_MOST - 1;
            held--;
            now.become(slots[next]);
        }
    }

    /** BEST, as it was found; fresh while use() would take it. */
    private static final class Best {
        final int[] row = new int[LOAVES_MOST];
        int size = 0;
        boolean fresh = false;

        void become(int[] other, int n) {
            System.arraycopy(other, 0, row, 0, n);
            size = n;
            fresh = true;
        }
    }

    /** The moments of a DAY, by place of its row. */
    private static final class Day {
        final int[] mixFrom = new int[LOAVES_MOST];
        final int[] mixTo = new int[LOAVES_MOST];
        final int[] bakeFrom = new int[LOAVES_MOST];
        final int[] bakeTo = new int[LOAVES_MOST];
        final int[] mixerFree = new int[LOAVES_MOST];
        int law = 0;
        int k = 0;

        void follow(int newLaw, int newK) {
            law = newLaw;
            k = newK;
        }

        /** The END of a row, whose places ahead of first have their moments already. */
        int endOf(Loaves loaves, int[] row, int first) {
            for (int place = first; place < loaves.size; place++) {
                lay(place, loaves.mix[row[place]], loaves.bake[row[place]]);
            }
            return loaves.size == 0 ? 0 : bakeTo[loaves.size - 1];
        }

        private void lay(int place, int mix, int bake) {
            int x = place == 0 ? 0 : mixerFree[place - 1];
            int y = place == 0 ? 0 : bakeTo[place - 1];
            mixFrom[place] = law == AT_ONCE ? Math.max(x, y - mix) : x;
            mixTo[place] = mixFrom[place] + mix;
            bakeFrom[place] = Math.max(mixTo[place], y);
            bakeTo[place] = bakeFrom[place] + bake;
            mixerFree[place] = mixTo[place];
            if (law == PLACES && place >= k) {
                mixerFree[place] = Math.max(mixTo[place], bakeFrom[place - k]);
            }
        }
    }

    /** All rows of the numbers below n, in order. */
    private static final class Rows {
        final int[] row = new int[ALL_ROUNDS_LOAVES];
        int n = 0;

        void begin(int numbers) {
            n = numbers;
            for (int place = 0; place < n; place++) {
                row[place] = place;
            }
        }

        /** Goes to the next row: the first place that changed, NONE behind the last row. */
        int step() {
            int first = n - 2;
            while (first >= 0 && row[first] > row[first + 1]) {
                first--;
            }
            if (first < 0) {
                return NONE;
            }
            int other = n - 1;
            while (other > first + 1 && row[other] < row[first]) {
                other--;
            }
            exchange(row, first, other);
            int low = first + 1;
            for (int high = n - 1; low < high; high--) {
                exchange(row, low, high);
                low++;
            }
            return first;
        }
    }

    /** UP and DOWN of each STRETCH; the last one goes on without end, as waits are long. */
    private static final class Prices {
        final int[] up = new int[STRETCHES];
        final int[] down = new int[STRETCHES];

        Prices(int eachUp) {
            Arrays.fill(up, eachUp);
        }

        boolean hasLossyStretch() {
            for (int stretch = 0; stretch < STRETCHES; stretch++) {
                if (up[stretch] + down[stretch] < 0) {
                    return true;
                }
            }
            return false;
        }

        int going(int x, int y) {
            return x < y ? below(up, y) - below(up, x) : below(down, x) - below(down, y);
        }

        private static int below(int[] each, int x) {
            int sum = 0;
            for (int stretch = 0; stretch < STRETCHES; stretch++) {
                int low = stretch * STRETCH_STEPS;
                int high = stretch + 1 < STRETCHES ? Math.min(x, low + STRETCH_STEPS) : x;
                sum += each[stretch] * Math.max(0, high - low);
            }
            return sum;
        }
    }

    /** POINTS that are paired to RINGS, which are joined where it costs least. */
    private static final class Rings {
        final int[] q = new int[LOAVES_MOST + 1];
        final int[] p = new int[LOAVES_MOST + 1];
        final int[] u = new int[LOAVES_MOST + 1];
        final int[] v = new int[LOAVES_MOST + 1];
        final int[] behind = new int[LOAVES_MOST + 1];
        final int[] ringOf = new int[LOAVES_MOST + 1];
        final int[] weights = new int[LOAVES_MOST];
        final int[] byWeight = new int[LOAVES_MOST];
        final boolean[] taken = new boolean[LOAVES_MOST];
        int points = 0;
        boolean told = false;
        int pairingRings = 0;
        int pairingCost = 0;
        int joinsTaken = 0;
        int joinsWeight = 0;

        /** The cost of THE ROUND of the POINTS laid in q and p. */
        int joinAll(Prices prices) {
            rank(p, points, u);
            rank(q, points, v);
            for (int i = 0; i < points; i++) {
                behind[u[i]] = v[i];
            }
            told = true;
            pairingCost = costOfAll(prices);
            nameRings();
            for (int i = 0; i + 1 < points; i++) {
                weights[i] = weightOf(i, prices);
            }
            rank(weights, points - 1, byWeight);
            takeJoins();
            exchangeTaken();
            return costOfAll(prices);
        }

        void rowFrom(int first, int[] row, int n) {
            int point = first;
            for (int place = 0; place < n; place++) {
                row[place] = point;
                point = behind[point];
            }
        }

        private int costOfAll(Prices prices) {
            int sum = 0;
            for (int point = 0; point < points; point++) {
                sum += prices.going(p[point], q[behind[point]]);
            }
            return sum;
        }

        private void nameRings() {
            Arrays.fill(ringOf, NONE);
            pairingRings = 0;
            for (int start = 0; start < points; start++) {
                if (ringOf[start] == NONE) {
                    nameRing(start, pairingRings);
                    pairingRings++;
                }
            }
        }

        private void nameRing(int start, int name) {
            int point = start;
            for (int steps = 0; steps < points && ringOf[point] == NONE; steps++) {
                ringOf[point] = name;
                point = behind[point];
            }
        }

        private int weightOf(int i, Prices prices) {
            int low = Math.max(p[u[i]], q[v[i]]);
            int high = Math.min(p[u[i + 1]], q[v[i + 1]]);
            return low < high ? prices.going(low, high) + prices.going(high, low) : 0;
        }

        private void takeJoins() {
            joinsTaken = 0;
            joinsWeight = 0;
            for (int i = 0; i + 1 < points; i++) {
                int join = byWeight[i];
                int one = ringOf[u[join]];
                int other = ringOf[u[join + 1]];
                taken[join] = one != other;
                if (taken[join]) {
                    joinsTaken++;
                    joinsWeight += weights[join];
                    rename(other, one);
                }
            }
        }

        private void rename(int name, int newName) {
            for (int point = 0; point < points; point++) {
                if (ringOf[point] == name) {
                    ringOf[point] = newName;
                }
            }
        }

        private void exchangeTaken() {
            for (int i = points - 2; i >= 0; i--) {
                if (taken[i] && !endsAbove(i)) {
                    exchange(behind, u[i], u[i + 1]);
                }
            }
            for (int i = 0; i + 1 < points; i++) {
                if (taken[i] && endsAbove(i)) {
                    exchange(behind, u[i], u[i + 1]);
                }
            }
        }

        private boolean endsAbove(int i) {
            return p[u[i]] > q[v[i]];
        }
    }
}
