import java.util.ArrayList;
import java.util.HashMap;
import java.util.List;
import java.util.Map;

/**
 * The document once more, written without any of the ways of LeastFrames: LEAST by linear programs
 * in big fractions, FRAME by leaving out bars from the greatest one down, FAULT by solving the first
 * ways alone. Slow, and for tests alone.
 */
final class Reference {
    static final int NONE = -1, BAD = -2, NOT = -3, FULL = -4;

    private static final class Spot {
        int x, y, held;
        final int[] load = new int[2], shift = new int[2];
    }

    private static final class Page {
        int form;
        long[] items;
    }

    private final List<Spot> spots = new ArrayList<>();
    private final Page[] pages = new Page[4];
    private int bars, finding;
    private final Map<String, Object> known = new HashMap<>();
    private static final Object UNBORNE = "unborne";

    // ---- what the terms mean

    private int pairs() { return spots.size() * (spots.size() - 1) / 2; }

    private static int[] ends(int k) {
        for (int j = 1; ; j++) {
            for (int i = 0; i < j; i++) {
                if (j * (j - 1) / 2 + i == k) {
                    return new int[] {i, j};
                }
            }
        }
    }

    private int quad(int k) {
        Spot a = spots.get(ends(k)[0]), b = spots.get(ends(k)[1]);
        return (a.x - b.x) * (a.x - b.x) + (a.y - b.y) * (a.y - b.y);
    }

    private List<Integer> ways() {
        List<Integer> ways = new ArrayList<>();
        for (int p = 0; p < spots.size(); p++) {
            if (spots.get(p).held % 2 == 0) ways.add(2 * p);
            if (spots.get(p).held < 2) ways.add(2 * p + 1);
        }
        return ways;
    }

    private long brings(int k, int way) {
        int p = way / 2;
        int[] e = ends(k);
        if (p != e[0] && p != e[1]) return 0;
        Spot here = spots.get(p), there = spots.get(p == e[0] ? e[1] : e[0]);
        return way % 2 == 0 ? there.x - here.x : there.y - here.y;
    }

    private long loadAt(int way) { return spots.get(way / 2).load[way % 2]; }

    private static List<Integer> members(int set) {
        List<Integer> list = new ArrayList<>();
        for (int k = 0; k < 10; k++) {
            if ((set >> k & 1) == 1) list.add(k);
        }
        return list;
    }

    private String key(String of, int set) {
        StringBuilder b = new StringBuilder(of).append(set);
        for (Spot s : spots) {
            b.append(';').append(s.x).append(',').append(s.y).append(',').append(s.held);
            b.append(',').append(s.load[0]).append(',').append(s.load[1]);
        }
        return b.toString();
    }

    /** LEAST of some bars, null if the loads are unborne. */
    Fraction leastOf(int set) {
        Object answer = known.computeIfAbsent(key("least", set), x -> {
            Fraction f = leastByProgram(set);
            return f == null ? UNBORNE : f;
        });
        return answer == UNBORNE ? null : (Fraction) answer;
    }

    private Fraction leastByProgram(int set) {
        List<Integer> ways = ways(), bs = members(set);
        long[][] left = new long[ways.size()][2 * bs.size()];
        long[] right = new long[ways.size()], cost = new long[2 * bs.size()];
        for (int i = 0; i < ways.size(); i++) {
            for (int j = 0; j < bs.size(); j++) {
                left[i][2 * j] = brings(bs.get(j), ways.get(i));
                left[i][2 * j + 1] = -left[i][2 * j];
            }
            right[i] = -loadAt(ways.get(i));
        }
        for (int j = 0; j < cost.length; j++) {
            cost[j] = quad(bs.get(j / 2));
        }
        return Program.least(left, right, cost);
    }

    private int frameOf(int set) {
        Fraction least = leastOf(set);
        if (least == null) return NOT;
        int left = set;
        for (int k = 9; k >= 0; k--) {
            int fewer = left & ~(1 << k);
            if (fewer != left && least.equals(leastOf(fewer))) left = fewer;
        }
        return left;
    }

    /** FRAME as the document has it, word by word: the first set, as bits, that bears with LEAST. */
    int frameByTrial() {
        Fraction least = leastOf(bars);
        if (least == null) return NOT;
        for (int set = 0; set <= bars; set++) {
            if ((set & ~bars) == 0 && least.equals(leastOf(set))) return set;
        }
        throw new IllegalStateException();
    }

    /** Solves the balance at some ways by some bars: pulls by bar, null if there are none. */
    private Fraction[] solve(List<Integer> ways, List<Integer> bs) {
        int n = bs.size();
        Fraction[][] m = new Fraction[ways.size()][n + 1];
        for (int i = 0; i < m.length; i++) {
            for (int j = 0; j < n; j++) m[i][j] = Fraction.of(brings(bs.get(j), ways.get(i)));
            m[i][n] = Fraction.of(-loadAt(ways.get(i)));
        }
        return reduced(m, n);
    }

    /** Some solution of equations in n unknowns, null if there is none. */
    private static Fraction[] reduced(Fraction[][] m, int n) {
        int done = 0;
        Fraction[] q = new Fraction[n];
        java.util.Arrays.fill(q, Fraction.ZERO);
        int[] rowOf = new int[n];
        for (int j = 0; j < n; j++) {
            rowOf[j] = -1;
            int r = done;
            while (r < m.length && m[r][j].sign() == 0) r++;
            if (r == m.length) continue;
            Fraction[] line = m[r];
            m[r] = m[done];
            m[done] = line;
            Fraction by = line[j];
            for (int c = 0; c <= n; c++) line[c] = line[c].over(by);
            for (int i = 0; i < m.length; i++) {
                if (i == done) continue;
                Fraction f = m[i][j];
                for (int c = 0; c <= n; c++) m[i][c] = m[i][c].minus(f.times(line[c]));
            }
            rowOf[j] = done++;
        }
        for (int i = done; i < m.length; i++) {
            if (m[i][n].sign() != 0) return null;
        }
        for (int j = 0; j < n; j++) {
            if (rowOf[j] >= 0) q[j] = m[rowOf[j]][n];
        }
        return q;
    }

    /**
     * Shifts in twelfths, by way of all points, that stretch each bar of FRAME just by its QUAD, the
     * way that it pulls; null, if there are none in twelfths. They are the likely prices of LEAST.
     */
    int[] likelyPrices() {
        if (leastOf(bars) == null) return null;
        List<Integer> ways = ways(), bs = members(frameOf(bars));
        Fraction[][] m = new Fraction[bs.size()][ways.size() + 1];
        for (int i = 0; i < bs.size(); i++) {
            for (int j = 0; j < ways.size(); j++) m[i][j] = Fraction.of(-brings(bs.get(i), ways.get(j)));
            m[i][ways.size()] = Fraction.of(pullOf(bs.get(i)).sign() * quad(bs.get(i)));
        }
        Fraction[] u = reduced(m, ways.size());
        int[] shifts = new int[2 * spots.size()];
        for (int j = 0; j < ways.size(); j++) {
            Fraction twelfths = u[j].times(Fraction.of(12));
            if (twelfths.part(1) != 1 || out(twelfths.part(0), -999, 999)) return null;
            shifts[ways.get(j)] = (int) twelfths.part(0);
        }
        return shifts;
    }

    private int faultOf(int set) {
        return (Integer) known.computeIfAbsent(key("fault", set), x -> {
            List<Integer> ways = ways();
            for (int i = 1; i <= ways.size(); i++) {
                if (solve(ways.subList(0, i), members(set)) == null) return ways.get(i - 1);
            }
            return NONE;
        });
    }

    private Fraction pullOf(int k) {
        List<Integer> bs = members(frameOf(bars));
        int at = bs.indexOf(k);
        return at < 0 ? Fraction.ZERO : solve(ways(), bs)[at];
    }

    private boolean isNeeded(int k) {
        Fraction rest = leastOf(bars & ~(1 << k));
        return rest == null || rest.compareTo(leastOf(bars)) > 0;
    }

    private long freeShift(int p, int axis) {
        return (spots.get(p).held >> axis & 1) == 1 ? 0 : spots.get(p).shift[axis];
    }

    private Fraction stretchOf(int k) {
        int i = ends(k)[0], j = ends(k)[1];
        long sum = (freeShift(j, 0) - freeShift(i, 0)) * (spots.get(j).x - spots.get(i).x)
            + (freeShift(j, 1) - freeShift(i, 1)) * (spots.get(j).y - spots.get(i).y);
        return Fraction.of(sum, 12);
    }

    private Fraction workOf() {
        Fraction sum = Fraction.ZERO;
        for (int way : ways()) {
            sum = sum.plus(Fraction.of(loadAt(way) * spots.get(way / 2).shift[way % 2], 12));
        }
        return sum;
    }

    /** Crossings: lesser, greater, x, y. */
    private List<Object[]> crossings() {
        List<Object[]> list = new ArrayList<>();
        List<Integer> bs = members(frameOf(bars));
        for (int a : bs) {
            for (int b : bs) {
                if (a >= b) continue;
                Fraction[] place = meet(a, b);
                if (place != null) list.add(new Object[] {a, b, place[0], place[1]});
            }
        }
        return list;
    }

    /** Where the lines of two bars meet, if strictly between the ends of both: by the lines' equations. */
    private Fraction[] meet(int a, int b) {
        Spot p = spots.get(ends(a)[0]), q = spots.get(ends(a)[1]);
        Spot r = spots.get(ends(b)[0]), s = spots.get(ends(b)[1]);
        if (p == r || p == s || q == r || q == s) return null;
        long a1 = q.y - p.y, b1 = p.x - q.x, c1 = a1 * p.x + b1 * p.y;
        long a2 = s.y - r.y, b2 = r.x - s.x, c2 = a2 * r.x + b2 * r.y;
        long det = a1 * b2 - a2 * b1;
        if (det == 0) return null;
        Fraction x = Fraction.of(c1 * b2 - c2 * b1, det), y = Fraction.of(a1 * c2 - a2 * c1, det);
        return within(x, y, p, q) && within(x, y, r, s) ? new Fraction[] {x, y} : null;
    }

    private static boolean within(Fraction x, Fraction y, Spot p, Spot q) {
        Fraction dot = x.minus(Fraction.of(p.x)).times(x.minus(Fraction.of(q.x)))
            .plus(y.minus(Fraction.of(p.y)).times(y.minus(Fraction.of(q.y))));
        return dot.sign() < 0;
    }

    private static long big(int refusal) { return Long.MIN_VALUE + -(long) refusal; }

    private int found(int n) { finding = n; return -10 - n; }

    private boolean noSpot(int p) { return p < 0 || p >= spots.size(); }

    private boolean noPair(int k) { return k < 0 || k >= pairs(); }

    private boolean isBar(int k) { return !noPair(k) && (bars >> k & 1) == 1; }

    private static boolean out(long v, long from, long to) { return v < from || v > to; }

    // ---- the calls

    int point(int x, int y) {
        if (out(x, 0, 4) || out(y, 0, 4)) return BAD;
        for (Spot s : spots) if (s.x == x && s.y == y) return NOT;
        if (spots.size() == 5) return FULL;
        Spot s = new Spot();
        s.x = x;
        s.y = y;
        spots.add(s);
        return spots.size() - 1;
    }

    int back() {
        if (spots.isEmpty()) return NOT;
        spots.remove(spots.size() - 1);
        for (int k = pairs(); k < 10; k++) bars &= ~(1 << k);
        return spots.size();
    }

    int hold(int p, int bits) {
        if (noSpot(p) || out(bits, 0, 3)) return BAD;
        int was = spots.get(p).held;
        spots.get(p).held = bits;
        return was;
    }

    int load(int p, int axis, int v) {
        if (noSpot(p) || out(axis, 0, 1) || out(v, -9, 9)) return Integer.MIN_VALUE;
        int was = spots.get(p).load[axis];
        spots.get(p).load[axis] = v;
        return was;
    }

    int bar(int pair) {
        if (noPair(pair)) return BAD;
        bars ^= 1 << pair;
        return bars;
    }

    int all() {
        for (int k = 0; k < pairs(); k++) bars |= 1 << k;
        return pairs();
    }

    int read(int s) {
        if (out(s, 0, 3)) return BAD;
        if (pages[s] == null) return found(1);
        int n = 0;
        for (long v : pages[s].items) {
            if (n >= 2 * spots.size() || out(v, -9, 9)) break;
            spots.get(n / 2).load[n % 2] = (int) v;
            n++;
        }
        return n;
    }

    int info(int p, int what) {
        if (noSpot(p) || out(what, 0, 6)) return Integer.MIN_VALUE;
        Spot s = spots.get(p);
        return new int[] {s.x, s.y, s.held, s.load[0], s.load[1], s.shift[0], s.shift[1]}[what];
    }

    int pair(int k, int what) {
        if (noPair(k) || out(what, 0, 3)) return BAD;
        return new int[] {ends(k)[0], ends(k)[1], quad(k), isBar(k) ? 1 : 0}[what];
    }

    private static long told(Fraction f, int what) { return f == null ? big(NOT) : f.part(what); }

    long least(int what) { return out(what, 0, 1) ? big(BAD) : told(leastOf(bars), what); }

    int fault() { return faultOf(bars); }

    int frame() { return frameOf(bars); }

    long pull(int k, int what) {
        if (noPair(k) || out(what, 0, 1)) return big(BAD);
        return leastOf(bars) == null ? big(NOT) : pullOf(k).part(what);
    }

    long without(int k, int what) {
        if (!isBar(k) || out(what, 0, 1)) return big(BAD);
        return told(leastOf(bars & ~(1 << k)), what);
    }

    int why(int k) { return isBar(k) ? faultOf(bars & ~(1 << k)) : BAD; }

    int needed() {
        if (leastOf(bars) == null) return NOT;
        int bits = 0;
        for (int k : members(bars)) if (isNeeded(k)) bits |= 1 << k;
        return bits;
    }

    int dearest() {
        if (leastOf(bars) == null) return NOT;
        List<Integer> list = members(needed());
        for (int k : list) if (leastOf(bars & ~(1 << k)) == null) return k;
        int best = NONE;
        for (int k : list) {
            if (best < 0 || leastOf(bars & ~(1 << k)).compareTo(leastOf(bars & ~(1 << best))) > 0) best = k;
        }
        return best;
    }

    private Fraction gainOf(int k) { return leastOf(bars).minus(leastOf(bars | 1 << k)); }

    long gain(int k, int what) {
        if (noPair(k) || isBar(k) || out(what, 0, 1)) return big(BAD);
        return leastOf(bars) == null ? big(NOT) : gainOf(k).part(what);
    }

    int grow() {
        if (leastOf(bars) == null) return NOT;
        for (int came = 0; ; came++) {
            int best = NONE;
            for (int k = 0; k < pairs(); k++) {
                if (isBar(k) || gainOf(k).sign() <= 0) continue;
                if (best < 0 || gainOf(k).compareTo(gainOf(best)) > 0) best = k;
            }
            if (best < 0) return came;
            bars |= 1 << best;
        }
    }

    int prune() {
        if (leastOf(bars) == null) return NOT;
        int was = members(bars).size();
        bars = frameOf(bars);
        return was - members(bars).size();
    }

    long would(int p, int axis, int v, int what) {
        if (noSpot(p) || out(axis, 0, 1) || out(v, -9, 9) || out(what, 0, 1)) return big(BAD);
        int was = load(p, axis, v);
        long answer = least(what);
        load(p, axis, was);
        return answer;
    }

    int shift(int p, int axis, int v) {
        if (noSpot(p) || out(axis, 0, 1) || out(v, -999, 999)) return Integer.MIN_VALUE;
        int was = spots.get(p).shift[axis];
        spots.get(p).shift[axis] = v;
        return was;
    }

    long stretch(int k, int what) {
        return noPair(k) || out(what, 0, 1) ? big(BAD) : stretchOf(k).part(what);
    }

    long work(int what) { return out(what, 0, 1) ? big(BAD) : workOf().part(what); }

    int proves() {
        for (int k : members(bars)) {
            if (stretchOf(k).size().compareTo(Fraction.of(quad(k))) > 0) return 0;
        }
        return workOf().equals(leastOf(bars)) ? 2 : 1;
    }

    int cross(int k, int what) {
        if (k < 0 || out(what, 0, 5)) return BAD;
        if (leastOf(bars) == null) return NOT;
        List<Object[]> list = crossings();
        if (k >= list.size()) return BAD;
        Object[] c = list.get(k);
        return what < 2 ? (Integer) c[what] : (int) ((Fraction) c[what / 2 + 1]).part(what % 2);
    }

    int sheet(int s, int form, int n) {
        if (out(s, 0, 3) || out(form, 0, 1) || n > 40) return BAD;
        if (n < 0) return found(5);
        pages[s] = new Page();
        pages[s].form = form;
        pages[s].items = new long[n];
        return n;
    }

    int lose(int s) {
        if (out(s, 0, 3)) return BAD;
        if (pages[s] == null) return found(1);
        int n = pages[s].items.length;
        pages[s] = null;
        return n;
    }

    int put(int s, int form, int i, int v) {
        if (out(s, 0, 3) || out(form, 0, 1)) return BAD;
        if (pages[s] == null) return found(1);
        if (pages[s].form != form) return found(3);
        if (out(i, 0, pages[s].items.length - 1)) return found(2);
        java.math.BigInteger cube = java.math.BigInteger.valueOf(v).pow(3);
        if (form == 1 && cube.bitLength() > 63) return found(6);
        pages[s].items[i] = form == 0 ? v : cube.longValueExact();
        return 1;
    }

    long get(int s, int i) {
        if (out(s, 0, 3)) return big(BAD);
        if (pages[s] == null) return big(found(1));
        if (out(i, 0, pages[s].items.length - 1)) return big(found(2));
        return pages[s].items[i];
    }

    int copy(int s, int i, int t, int j, int n) {
        if (out(s, 0, 3) || out(t, 0, 3)) return BAD;
        if (pages[s] == null || pages[t] == null) return found(1);
        if (pages[s].form != pages[t].form) return found(4);
        boolean below = i < 0 || j < 0 || n < 0;
        if (below || (long) i + n > pages[s].items.length || (long) j + n > pages[t].items.length) return found(2);
        long[] was = pages[s].items.clone();
        for (int a = 0; a < n; a++) pages[t].items[j + a] = was[i + a];
        return 1;
    }

    int write(int s) {
        if (out(s, 0, 3)) return BAD;
        if (pages[s] == null) return found(1);
        if (leastOf(bars) == null) return NOT;
        int n = 0;
        for (int k = 0; k < pairs(); k++) {
            for (int what = 0; what < 2 && n < pages[s].items.length; what++) {
                long v = pullOf(k).part(what);
                pages[s].items[n++] = pages[s].form == 0 ? (int) v : v;
            }
        }
        return n;
    }

    int count(int what) {
        boolean borne = leastOf(bars) != null;
        switch (what) {
            case 0: return spots.size();
            case 1: return members(bars).size();
            case 2: return ways().size();
            case 3: return borne ? members(frame()).size() : NONE;
            case 4: return borne ? members(needed()).size() : NONE;
            case 5: return borne ? 1 : 0;
            case 6: return borne ? crossings().size() : NONE;
            case 7: return proves();
            case 8: return finding;
            default: return BAD;
        }
    }

    long digest() {
        List<Long> told = new ArrayList<>();
        for (int w = 0; w <= 7; w++) told.add((long) count(w));
        told.add(least(0));
        told.add(least(1));
        told.add((long) fault());
        told.add((long) frame());
        told.add((long) needed());
        told.add((long) dearest());
        for (int p = 0; p < spots.size(); p++) for (int w = 0; w <= 6; w++) told.add((long) info(p, w));
        for (int k = 0; k < pairs(); k++) {
            for (int w = 0; w <= 3; w++) told.add((long) pair(k, w));
            for (int w = 0; w <= 1; w++) told.add(pull(k, w));
            for (int w = 0; w <= 1; w++) told.add(stretch(k, w));
            for (int w = 0; w <= 1; w++) told.add(isBar(k) ? without(k, w) : gain(k, w));
            if (isBar(k)) told.add((long) why(k));
        }
        told.add(work(0));
        told.add(work(1));
        for (int c = 0; c < count(6); c++) for (int w = 0; w <= 5; w++) told.add((long) cross(c, w));
        long h = 17;
        for (long v : told) h = 31 * h + v;
        return h;
    }
}
