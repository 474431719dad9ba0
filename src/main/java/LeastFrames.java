/**
 * Finds frames of least volume among bars between points of a small grid, exactly.
 *
 * The loads fix, for each set of bars without a bar to spare, the one set of pulls that bears them.
 * All such sets of all pairs are gathered once for points, holds and loads (they are few: none is
 * part of another), and every question about bars that there are, are not, or might be is then a
 * search for the least among those sets that the bars in question contain.
 */
public final class LeastFrames {
    public static final int NONE = -1, BAD = -2, NOT = -3, FULL = -4;

    private static final int MOST_POINTS = 5, MOST_WAYS = 10, MOST_PAIRS = 10;
    private static final int MOST_PLACE = 4, MOST_LOAD = 9, MOST_SHIFT = 999;
    private static final int SHIFT_PARTS = 12;
    private static final int MOST_SHEETS = 4, MOST_ITEMS = 40, INTS = 0, LONGS = 1;
    /** The third powers of these two and of all between them are longs; beyond them none is. */
    private static final int LEAST_CUBED = -2097152, MOST_CUBED = 2097151;
    private static final int NULL = 1, INDEX = 2, CAST = 3, STORE = 4, SIZE = 5, OVER = 6;
    private static final int LEAST_INT = -2147483648;
    private static final long LEAST_LONG = -9223372036854775808L;

    /** The lesser and the greater point of each pair. */
    private static final int[] LESSER = {0, 0, 1, 0, 1, 2, 0, 1, 2, 3};
    private static final int[] GREATER = {1, 2, 2, 3, 3, 3, 4, 4, 4, 4};

    private final Ground ground;
    private final Bearers now;
    private final Bearers then;
    private final FaultFinder faults;
    private final Crossing crossing;
    private final Sheet[] sheets;
    private int bars;
    private int finding;
    /** Whether points, holds or loads are others than those for which sets were gathered. */
    private boolean stale;

    public LeastFrames() {
        Tableau tableau = new Tableau();
        ground = new Ground();
        now = new Bearers(tableau);
        then = new Bearers(tableau);
        faults = new FaultFinder();
        crossing = new Crossing();
        sheets = new Sheet[MOST_SHEETS];
        for (int s = 0; s < MOST_SHEETS; s++) {
            sheets[s] = new Sheet();
        }
        stale = true;
    }

    // ---- points, bars, loads

    public int point(int x, int y) {
        if (!isWithin(x, 0, MOST_PLACE) || !isWithin(y, 0, MOST_PLACE)) {
            return BAD;
        }
        if (ground.isTaken(x, y)) {
            return NOT;
        }
        if (ground.size >= MOST_POINTS) {
            return FULL;
        }
        stale = true;
        return ground.add(x, y);
    }

    public int back() {
        if (ground.size <= 0) {
            return NOT;
        }
        ground.size--;
        bars &= ground.everyPair();
        stale = true;
        return ground.size;
    }

    public int hold(int p, int bits) {
        if (!ground.hasPoint(p) || !isWithin(bits, 0, 3)) {
            return BAD;
        }
        int was = ground.held[p];
        ground.held[p] = bits;
        stale = true;
        return was;
    }

    public int load(int p, int axis, int v) {
        if (!ground.hasPoint(p) || !isWithin(axis, 0, 1) || !isLoad(v)) {
            return LEAST_INT;
        }
        int was = ground.loads[2 * p + axis];
        ground.loads[2 * p + axis] = v;
        stale = true;
        return was;
    }

    public int bar(int pair) {
        if (!ground.hasPair(pair)) {
            return BAD;
        }
        bars ^= 1 << pair;
        return bars;
    }

    public int all() {
        bars = ground.everyPair();
        return ground.pairs();
    }

    public int read(int s) {
        if (!isSheet(s)) {
            return BAD;
        }
        Sheet sheet = sheets[s];
        if (sheet.lost) {
            return found(NULL);
        }
        int most = Math.min(sheet.size, 2 * ground.size);
        int taken = 0;
        while (taken < most && isLoad(sheet.items[taken])) {
            ground.loads[taken] = (int) sheet.items[taken];
            taken++;
        }
        stale = true;
        return taken;
    }

    public int info(int p, int what) {
        if (!ground.hasPoint(p)) {
            return LEAST_INT;
        }
        switch (what) {
            case 0: return ground.places[2 * p];
            case 1: return ground.places[2 * p + 1];
            case 2: return ground.held[p];
            case 3: return ground.loads[2 * p];
            case 4: return ground.loads[2 * p + 1];
            case 5: return ground.shifts[2 * p];
            case 6: return ground.shifts[2 * p + 1];
            default: return LEAST_INT;
        }
    }

    public int pair(int k, int what) {
        if (!ground.hasPair(k)) {
            return BAD;
        }
        switch (what) {
            case 0: return LESSER[k];
            case 1: return GREATER[k];
            case 2: return ground.quads[k];
            case 3: return isBar(k) ? 1 : 0;
            default: return BAD;
        }
    }

    // ---- the least

    public long least(int what) {
        if (!isPart(what)) {
            return asLong(BAD);
        }
        return now.volume(bestNow(), what);
    }

    public int fault() {
        return faults.first(ground, bars);
    }

    public int frame() {
        int best = bestNow();
        return best < 0 ? NOT : now.sets[best];
    }

    public long pull(int k, int what) {
        if (!ground.hasPair(k) || !isPart(what)) {
            return asLong(BAD);
        }
        int best = bestNow();
        if (best < 0) {
            return asLong(NOT);
        }
        now.solve(ground, now.sets[best]);
        return lowest(now.pulls[k], now.pullsBelow, what);
    }

    public long without(int k, int what) {
        if (!isBar(k) || !isPart(what)) {
            return asLong(BAD);
        }
        if (bestNow() < 0) {
            return asLong(NOT);
        }
        return now.volume(now.leastWithin(bars & ~(1 << k)), what);
    }

    public int why(int k) {
        if (!isBar(k)) {
            return BAD;
        }
        return faults.first(ground, bars & ~(1 << k));
    }

    public int needed() {
        int best = bestNow();
        if (best < 0) {
            return NOT;
        }
        // Without a bar that is not of the frame, the frame still stands.
        int set = now.sets[best];
        int bits = 0;
        for (int k = 0; k < MOST_PAIRS; k++) {
            int bit = 1 << k;
            if ((set & bit) != 0 && now.isDearer(now.leastWithin(bars & ~bit), best)) {
                bits |= bit;
            }
        }
        return bits;
    }

    public int dearest() {
        int bits = needed();
        if (bits < 0) {
            return NOT;
        }
        int chosen = NONE;
        int worst = NONE;
        for (int k = 0; k < MOST_PAIRS; k++) {
            if ((bits >> k & 1) == 0) {
                continue;
            }
            int rest = now.leastWithin(bars & ~(1 << k));
            if (rest < 0) {
                return k;
            }
            if (chosen < 0 || now.isDearer(rest, worst)) {
                chosen = k;
                worst = rest;
            }
        }
        return chosen;
    }

    public long gain(int k, int what) {
        if (!ground.hasPair(k) || isBar(k) || !isPart(what)) {
            return asLong(BAD);
        }
        int best = bestNow();
        if (best < 0) {
            return asLong(NOT);
        }
        return now.difference(best, now.leastWithin(bars | 1 << k), what);
    }

    public int grow() {
        if (bestNow() < 0) {
            return NOT;
        }
        int came = 0;
        int next = mostSaving();
        while (came < MOST_PAIRS && next >= 0) {
            bars |= 1 << next;
            came++;
            next = mostSaving();
        }
        return came;
    }

    public int prune() {
        int set = frame();
        if (set < 0) {
            return NOT;
        }
        int gone = Integer.bitCount(bars) - Integer.bitCount(set);
        bars = set;
        return gone;
    }

    public long would(int p, int axis, int v, int what) {
        if (!ground.hasPoint(p) || !isWithin(axis, 0, 1) || !isLoad(v) || !isPart(what)) {
            return asLong(BAD);
        }
        int was = ground.loads[2 * p + axis];
        ground.loads[2 * p + axis] = v;
        then.gather(ground, bars);
        ground.loads[2 * p + axis] = was;
        return then.volume(then.leastWithin(bars), what);
    }

    // ---- displacements

    public int shift(int p, int axis, int v) {
        if (!ground.hasPoint(p) || !isWithin(axis, 0, 1) || !isWithin(v, -MOST_SHIFT, MOST_SHIFT)) {
            return LEAST_INT;
        }
        int was = ground.shifts[2 * p + axis];
        ground.shifts[2 * p + axis] = v;
        return was;
    }

    public long stretch(int k, int what) {
        if (!ground.hasPair(k) || !isPart(what)) {
            return asLong(BAD);
        }
        return lowest(ground.stretchParts(k), SHIFT_PARTS, what);
    }

    public long work(int what) {
        if (!isPart(what)) {
            return asLong(BAD);
        }
        return lowest(ground.workParts(), SHIFT_PARTS, what);
    }

    public int proves() {
        for (int k = 0; k < MOST_PAIRS; k++) {
            if (isBar(k) && Math.abs(ground.stretchParts(k)) > SHIFT_PARTS * ground.quads[k]) {
                return 0;
            }
        }
        int best = bestNow();
        if (best < 0) {
            return 1;
        }
        return ground.workParts() * now.below[best] == SHIFT_PARTS * now.above[best] ? 2 : 1;
    }

    // ---- crossings

    public int cross(int k, int what) {
        if (k < 0 || !isWithin(what, 0, 5)) {
            return BAD;
        }
        int set = frame();
        if (set < 0) {
            return NOT;
        }
        if (crossing.pass(ground, set, k) <= k) {
            return BAD;
        }
        switch (what) {
            case 0: return crossing.lesser;
            case 1: return crossing.greater;
            case 2: return (int) lowest(crossing.xAbove, crossing.below, 0);
            case 3: return (int) lowest(crossing.xAbove, crossing.below, 1);
            case 4: return (int) lowest(crossing.yAbove, crossing.below, 0);
            default: return (int) lowest(crossing.yAbove, crossing.below, 1);
        }
    }

    // ---- sheets

    public int sheet(int s, int form, int n) {
        if (!isSheet(s) || !isWithin(form, INTS, LONGS) || n > MOST_ITEMS) {
            return BAD;
        }
        if (n < 0) {
            return found(SIZE);
        }
        sheets[s].renew(form, n);
        return n;
    }

    public int lose(int s) {
        if (!isSheet(s)) {
            return BAD;
        }
        if (sheets[s].lost) {
            return found(NULL);
        }
        sheets[s].lost = true;
        return sheets[s].size;
    }

    public int put(int s, int form, int i, int v) {
        if (!isSheet(s) || !isWithin(form, INTS, LONGS)) {
            return BAD;
        }
        Sheet sheet = sheets[s];
        if (sheet.lost) {
            return found(NULL);
        }
        if (sheet.form != form) {
            return found(CAST);
        }
        if (!isWithin(i, 0, sheet.size - 1)) {
            return found(INDEX);
        }
        if (form == LONGS && !isWithin(v, LEAST_CUBED, MOST_CUBED)) {
            return found(OVER);
        }
        sheet.items[i] = form == LONGS ? (long) v * v * v : v;
        return 1;
    }

    public long get(int s, int i) {
        if (!isSheet(s)) {
            return asLong(BAD);
        }
        Sheet sheet = sheets[s];
        if (sheet.lost) {
            return asLong(found(NULL));
        }
        if (!isWithin(i, 0, sheet.size - 1)) {
            return asLong(found(INDEX));
        }
        return sheet.items[i];
    }

    public int copy(int s, int i, int t, int j, int n) {
        if (!isSheet(s) || !isSheet(t)) {
            return BAD;
        }
        Sheet from = sheets[s];
        Sheet to = sheets[t];
        if (from.lost || to.lost) {
            return found(NULL);
        }
        if (from.form != to.form) {
            return found(STORE);
        }
        if (!from.hasItems(i, n) || !to.hasItems(j, n)) {
            return found(INDEX);
        }
        System.arraycopy(from.items, i, to.items, j, n);
        return 1;
    }

    public int write(int s) {
        if (!isSheet(s)) {
            return BAD;
        }
        Sheet sheet = sheets[s];
        if (sheet.lost) {
            return found(NULL);
        }
        int set = frame();
        if (set < 0) {
            return NOT;
        }
        now.solve(ground, set);
        int most = Math.min(sheet.size, 2 * ground.pairs());
        for (int i = 0; i < most; i++) {
            long part = lowest(now.pulls[i / 2], now.pullsBelow, i % 2);
            sheet.items[i] = sheet.form == INTS ? (int) part : part;
        }
        return most;
    }

    public int count(int what) {
        switch (what) {
            case 0: return ground.size;
            case 1: return Integer.bitCount(bars);
            case 2: return ground.ways();
            case 3: return bitsOrNone(frame());
            case 4: return bitsOrNone(needed());
            case 5: return frame() < 0 ? 0 : 1;
            case 6: return crossings();
            case 7: return proves();
            case 8: return finding;
            default: return BAD;
        }
    }

    public long digest() {
        long h = 17;
        for (int what = 0; what <= 7; what++) {
            h = 31 * h + count(what);
        }
        h = 31 * h + least(0);
        h = 31 * h + least(1);
        h = 31 * h + fault();
        h = 31 * h + frame();
        h = 31 * h + needed();
        h = 31 * h + dearest();
        for (int p = 0; p < ground.size; p++) {
            for (int what = 0; what <= 6; what++) {
                h = 31 * h + info(p, what);
            }
        }
        for (int k = 0; k < ground.pairs(); k++) {
            h = digestPair(h, k);
        }
        h = 31 * h + work(0);
        h = 31 * h + work(1);
        int crossings = crossings();
        for (int c = 0; c < crossings; c++) {
            for (int what = 0; what <= 5; what++) {
                h = 31 * h + cross(c, what);
            }
        }
        return h;
    }

    private long digestPair(long before, int k) {
        long h = before;
        for (int what = 0; what <= 3; what++) {
            h = 31 * h + pair(k, what);
        }
        h = 31 * h + pull(k, 0);
        h = 31 * h + pull(k, 1);
        h = 31 * h + stretch(k, 0);
        h = 31 * h + stretch(k, 1);
        if (isBar(k)) {
            h = 31 * h + without(k, 0);
            h = 31 * h + without(k, 1);
            return 31 * h + why(k);
        }
        h = 31 * h + gain(k, 0);
        return 31 * h + gain(k, 1);
    }

    /** The frame as a set of those gathered, NONE if the loads are unborne. */
    private int bestNow() {
        if (stale) {
            now.gather(ground, ground.everyPair());
            stale = false;
        }
        return now.leastWithin(bars);
    }

    /** The pair that saves most as a bar, the first of like ones; NONE, if none saves. */
    private int mostSaving() {
        int chosen = NONE;
        int best = now.leastWithin(bars);
        for (int k = 0; k < ground.pairs(); k++) {
            int with = now.leastWithin(bars | 1 << k);
            if (now.isDearer(best, with)) {
                chosen = k;
                best = with;
            }
        }
        return chosen;
    }

    private int crossings() {
        int best = bestNow();
        return best < 0 ? NONE : crossing.pass(ground, now.sets[best], NONE);
    }

    private int found(int number) {
        finding = number;
        return -10 - number;
    }

    private boolean isBar(int k) {
        return ground.hasPair(k) && (bars >> k & 1) != 0;
    }

    private static int bitsOrNone(int bits) {
        return bits < 0 ? NONE : Integer.bitCount(bits);
    }

    private static long asLong(int refusal) {
        return LEAST_LONG - refusal;
    }

    private static boolean isWithin(int v, int from, int to) {
        return v >= from && v <= to;
    }

    private static boolean isLoad(long v) {
        return v >= -MOST_LOAD && v <= MOST_LOAD;
    }

    private static boolean isPart(int what) {
        return what == 0 || what == 1;
    }

    private static boolean isSheet(int s) {
        return s >= 0 && s < MOST_SHEETS;
    }

    /** What stands above (what = 0) or below (1) in a fraction, once it is in lowest terms. */
    private static long lowest(long above, long below, int what) {
        long a = Math.abs(above);
        long b = Math.abs(below);
        for (int i = 0; i < 128 && b != 0; i++) {
            long rest = a % b;
            a = b;
            b = rest;
        }
        long by = below < 0 ? -a : a;
        if (by == 0) {
            return what;
        }
        return (what == 0 ? above : below) / by;
    }

    /** Points, and what is told of each; a way is 2 times its point and the axis. */
    private static final class Ground {
        final int[] places = new int[MOST_WAYS];
        final int[] held = new int[MOST_POINTS];
        final int[] loads = new int[MOST_WAYS];
        final int[] shifts = new int[MOST_WAYS];
        /** How far the greater point of each pair is from the lesser one, in x and in y. */
        final int[] runs = new int[2 * MOST_PAIRS];
        final int[] quads = new int[MOST_PAIRS];
        int size;

        boolean hasPoint(int p) {
            return p >= 0 && p < size;
        }

        boolean isTaken(int x, int y) {
            for (int p = 0; p < size; p++) {
                if (places[2 * p] == x && places[2 * p + 1] == y) {
                    return true;
                }
            }
            return false;
        }

        int add(int x, int y) {
            int p = size;
            places[2 * p] = x;
            places[2 * p + 1] = y;
            held[p] = 0;
            for (int way = 2 * p; way < 2 * p + 2; way++) {
                loads[way] = 0;
                shifts[way] = 0;
            }
            int before = pairs();
            size++;
            for (int k = before; k < pairs(); k++) {
                measure(k);
            }
            return p;
        }

        private void measure(int k) {
            int dx = places[2 * GREATER[k]] - places[2 * LESSER[k]];
            int dy = places[2 * GREATER[k] + 1] - places[2 * LESSER[k] + 1];
            runs[2 * k] = dx;
            runs[2 * k + 1] = dy;
            quads[k] = dx * dx + dy * dy;
        }

        int pairs() {
            return size * (size - 1) / 2;
        }

        int everyPair() {
            return (1 << pairs()) - 1;
        }

        boolean hasPair(int k) {
            return k >= 0 && k < pairs();
        }

        boolean isFree(int way) {
            return (held[way / 2] >> way % 2 & 1) == 0;
        }

        int ways() {
            int free = 0;
            for (int way = 0; way < 2 * size; way++) {
                free += isFree(way) ? 1 : 0;
            }
            return free;
        }

        /** What a pull of 1 in a bar brings at a way. */
        int brought(int k, int way) {
            int run = runs[2 * k + way % 2];
            if (way / 2 == LESSER[k]) {
                return run;
            }
            return way / 2 == GREATER[k] ? -run : 0;
        }

        long stretchParts(int k) {
            int parts = 0;
            for (int axis = 0; axis < 2; axis++) {
                int apart = freeShift(2 * GREATER[k] + axis) - freeShift(2 * LESSER[k] + axis);
                parts += apart * runs[2 * k + axis];
            }
            return parts;
        }

        long workParts() {
            int parts = 0;
            for (int way = 0; way < 2 * size; way++) {
                parts += loads[way] * freeShift(way);
            }
            return parts;
        }

        private int freeShift(int way) {
            return isFree(way) ? shifts[way] : 0;
        }
    }

    /**
     * The balance at all ways, one row each, reduced bar by bar without fractions: the cells of a
     * level are subdeterminants of the first one's, so that each division leaves no rest and no cell
     * comes near the bounds of a long. The level of 0 bars is the balance as it is; the last column
     * is what all bars together have to bring.
     */
    private static final class Tableau {
        /** Bars that do not depend on each other are at most 7: 10 ways less 3 ways to move it all. */
        static final int MOST_LEVELS = 8;
        static final int WIDTH = MOST_PAIRS + 1;

        final long[][] cells = new long[MOST_LEVELS][MOST_WAYS * WIDTH];
        final int[] columnOf = new int[MOST_LEVELS];
        final int[] rowOf = new int[MOST_LEVELS];
        final int[] usedRows = new int[MOST_LEVELS];
        /** The pivot by which a level came to be, of the first one 1. */
        final long[] pivots = new long[MOST_LEVELS];
        /** Pulls of a level's bars, in their order, times that level's pivot. */
        final long[] solved = new long[MOST_LEVELS];
        int rows;
        int columns;

        /** Columns of bars that are not allowed are all 0, so that none of them ever enters. */
        void lay(Ground ground, int allowed) {
            long[] first = cells[0];
            columns = ground.pairs();
            rows = 0;
            usedRows[0] = 0;
            pivots[0] = 1;
            for (int way = 0; way < 2 * ground.size; way++) {
                if (!ground.isFree(way)) {
                    continue;
                }
                int at = rows * WIDTH;
                for (int k = 0; k < columns; k++) {
                    first[at + k] = (allowed >> k & 1) == 0 ? 0 : ground.brought(k, way);
                }
                first[at + columns] = -ground.loads[way];
                rows++;
            }
        }

        /** One bar more; false, if it depends on those of the level. Later columns alone are kept up. */
        boolean enter(int level, int column) {
            int row = pivotRow(level, column);
            if (row < 0) {
                return false;
            }
            long[] from = cells[level];
            long[] to = cells[level + 1];
            int at = row * WIDTH;
            long pivot = from[at + column];
            long last = pivots[level];
            int used = usedRows[level] | 1 << row;
            for (int r = 0; r < rows && last != 0; r++) {
                if ((used >> r & 1) != 0) {
                    continue;
                }
                int other = r * WIDTH;
                long factor = from[other + column];
                for (int c = column + 1; c <= columns; c++) {
                    to[other + c] = (pivot * from[other + c] - factor * from[at + c]) / last;
                }
            }
            columnOf[level] = column;
            rowOf[level] = row;
            usedRows[level + 1] = used;
            pivots[level + 1] = pivot;
            return true;
        }

        private int pivotRow(int level, int column) {
            if (level + 1 >= MOST_LEVELS) {
                return NONE;
            }
            for (int r = 0; r < rows; r++) {
                if ((usedRows[level] >> r & 1) == 0 && cells[level][r * WIDTH + column] != 0) {
                    return r;
                }
            }
            return NONE;
        }

        boolean bears(int level) {
            for (int r = 0; r < rows; r++) {
                if ((usedRows[level] >> r & 1) == 0 && cells[level][r * WIDTH + columns] != 0) {
                    return false;
                }
            }
            return true;
        }

        /** Finds the pulls of a level that bears, from its last bar back to its first. */
        void solve(int level) {
            for (int i = level - 1; i >= 0; i--) {
                long[] line = cells[i];
                int at = rowOf[i] * WIDTH;
                long sum = pivots[level] * line[at + columns];
                for (int j = i + 1; j < level; j++) {
                    sum -= line[at + columnOf[j]] * solved[j];
                }
                long by = line[at + columnOf[i]];
                solved[i] = by == 0 ? 0 : sum / by;
            }
        }
    }

    /**
     * The sets of bars that bear the loads and would not without any one of their bars. Each has just
     * one set of pulls, and whatever bars bear with the least volume, one of these sets does.
     */
    private static final class Bearers {
        /** No set is part of another: of 10 bars there are at most 10 over 5 such sets. */
        static final int MOST_SETS = 252;
        /** Each set of bars is tried once at most, and left once at most. */
        static final int MOST_STEPS = 2 << MOST_PAIRS;

        final int[] sets = new int[MOST_SETS];
        final long[] above = new long[MOST_SETS];
        final long[] below = new long[MOST_SETS];
        /** By pair, times pullsBelow: what the latest solve() found. */
        final long[] pulls = new long[MOST_PAIRS];
        long pullsBelow = 1;
        private final Tableau tableau;
        private final int[] next = new int[Tableau.MOST_LEVELS];
        private int size;
        /** The bars that were asked for last, and what was answered. */
        private int asked = NONE;
        private int answer = NONE;
        /** The set whose pulls these are. */
        private int pullsOf = NONE;

        Bearers(Tableau tableau) {
            this.tableau = tableau;
        }

        void gather(Ground ground, int allowed) {
            size = 0;
            asked = NONE;
            pullsOf = NONE;
            tableau.lay(ground, allowed);
            if (tableau.bears(0)) {
                keep(ground, 0);
                return;
            }
            int level = 0;
            next[0] = 0;
            for (int step = 0; step < MOST_STEPS && level >= 0; step++) {
                int column = next[level];
                if (column >= tableau.columns) {
                    level--;
                    continue;
                }
                next[level] = column + 1;
                if (!tableau.enter(level, column)) {
                    continue;
                }
                if (tableau.bears(level + 1)) {
                    keep(ground, level + 1);
                } else {
                    level++;
                    next[level] = column + 1;
                }
            }
        }

        private void keep(Ground ground, int level) {
            tableau.solve(level);
            int set = 0;
            long volume = 0;
            for (int i = 0; i < level; i++) {
                if (tableau.solved[i] == 0) {
                    return;
                }
                int k = tableau.columnOf[i];
                set |= 1 << k;
                volume += ground.quads[k] * Math.abs(tableau.solved[i]);
            }
            if (size < MOST_SETS) {
                sets[size] = set;
                above[size] = volume;
                below[size] = Math.abs(tableau.pivots[level]);
                size++;
            }
        }

        /** Of the sets within some bars the cheapest, of like ones the least; NONE, if there is none. */
        int leastWithin(int bars) {
            if (bars == asked) {
                return answer;
            }
            int best = NONE;
            for (int i = 0; i < size; i++) {
                if ((sets[i] & ~bars) != 0) {
                    continue;
                }
                if (best < 0 || isDearer(best, i) || !isDearer(i, best) && sets[i] < sets[best]) {
                    best = i;
                }
            }
            asked = bars;
            answer = best;
            return best;
        }

        /** Whether one set has more volume than another; NONE has more than any. */
        boolean isDearer(int one, int other) {
            if (one < 0 || other < 0) {
                return one < 0 && other >= 0;
            }
            return above[one] * below[other] > above[other] * below[one];
        }

        long volume(int index, int what) {
            return index < 0 ? asLong(NOT) : lowest(above[index], below[index], what);
        }

        long difference(int one, int other, int what) {
            if (one < 0 || other < 0) {
                return asLong(NOT);
            }
            long apart = above[one] * below[other] - above[other] * below[one];
            return lowest(apart, below[one] * below[other], what);
        }

        void solve(Ground ground, int set) {
            if (set == pullsOf) {
                return;
            }
            tableau.lay(ground, set);
            int level = 0;
            for (int k = 0; k < MOST_PAIRS; k++) {
                pulls[k] = 0;
                if (k < tableau.columns && tableau.enter(level, k)) {
                    level++;
                }
            }
            tableau.solve(level);
            for (int i = 0; i < level; i++) {
                pulls[tableau.columnOf[i]] = tableau.solved[i];
            }
            pullsBelow = tableau.pivots[level];
            pullsOf = set;
        }
    }

    /** Takes the balance way by way, so that the first one that the ways ahead of it rule out shows. */
    private static final class FaultFinder {
        static final int WIDTH = Tableau.WIDTH;

        private final long[][] rows = new long[MOST_WAYS][WIDTH];
        private final int[] columnOf = new int[MOST_WAYS];
        private int columns;

        int first(Ground ground, int bars) {
            int kept = 0;
            columns = ground.pairs();
            for (int way = 0; way < 2 * ground.size; way++) {
                if (!ground.isFree(way)) {
                    continue;
                }
                lay(rows[kept], ground, bars, way);
                reduce(kept);
                int column = firstOther(rows[kept]);
                if (column < columns) {
                    columnOf[kept] = column;
                    kept++;
                } else if (rows[kept][columns] != 0) {
                    return way;
                }
            }
            return NONE;
        }

        private void lay(long[] row, Ground ground, int bars, int way) {
            for (int k = 0; k < columns; k++) {
                row[k] = (bars >> k & 1) == 0 ? 0 : ground.brought(k, way);
            }
            row[columns] = -ground.loads[way];
        }

        /** As in the tableau, cells are subdeterminants, and divisions leave no rest. */
        private void reduce(int kept) {
            long[] row = rows[kept];
            long last = 1;
            for (int i = 0; i < kept && last != 0; i++) {
                long[] by = rows[i];
                long pivot = by[columnOf[i]];
                long factor = row[columnOf[i]];
                for (int c = 0; c <= columns; c++) {
                    row[c] = (pivot * row[c] - factor * by[c]) / last;
                }
                last = pivot;
            }
        }

        /** The first column that is not 0, or how many there are. */
        private int firstOther(long[] row) {
            int column = 0;
            while (column < columns && row[column] == 0) {
                column++;
            }
            return column;
        }
    }

    /** Where two bars of a set cross. */
    private static final class Crossing {
        int lesser;
        int greater;
        long xAbove;
        long yAbove;
        long below;

        /** Goes through the crossings in order, no further than the wanted one: how many it passed. */
        int pass(Ground ground, int set, int wanted) {
            int passed = 0;
            for (int one = 0; one < MOST_PAIRS; one++) {
                for (int other = one + 1; other < MOST_PAIRS; other++) {
                    boolean both = (set >> one & 1) != 0 && (set >> other & 1) != 0;
                    if (both && meet(ground, one, other)) {
                        passed++;
                        if (passed - 1 == wanted) {
                            return passed;
                        }
                    }
                }
            }
            return passed;
        }

        /** Bars with a point in common need no test of their own: they meet at an end or lie alike. */
        private boolean meet(Ground ground, int one, int other) {
            int dx = ground.runs[2 * one];
            int dy = ground.runs[2 * one + 1];
            int ex = ground.runs[2 * other];
            int ey = ground.runs[2 * other + 1];
            int x = ground.places[2 * LESSER[one]];
            int y = ground.places[2 * LESSER[one] + 1];
            int apartX = ground.places[2 * LESSER[other]] - x;
            int apartY = ground.places[2 * LESSER[other] + 1] - y;
            int whole = dx * ey - dy * ex;
            int along = apartX * ey - apartY * ex;
            int alongOther = apartX * dy - apartY * dx;
            if (!isInside(along, whole) || !isInside(alongOther, whole)) {
                return false;
            }
            lesser = one;
            greater = other;
            below = whole;
            xAbove = (long) x * whole + (long) along * dx;
            yAbove = (long) y * whole + (long) along * dy;
            return true;
        }

        /** Whether a part of a whole is above 0 and below 1; of a whole of 0 (bars that lie alike) none is. */
        private static boolean isInside(int part, int whole) {
            return whole > 0 ? part > 0 && part < whole : part < 0 && part > whole;
        }
    }

    /** A row of ints or of longs; both are kept as longs. */
    private static final class Sheet {
        final long[] items = new long[MOST_ITEMS];
        boolean lost = true;
        int form;
        int size;

        void renew(int newForm, int newSize) {
            lost = false;
            form = newForm;
            size = newSize;
            for (int i = 0; i < MOST_ITEMS; i++) {
                items[i] = 0;
            }
        }

        /** Whether there are n items from one on; of 0 items that one may be just behind the last. */
        boolean hasItems(int from, int n) {
            return from >= 0 && n >= 0 && from <= size && n <= size - from;
        }
    }
}
