import java.util.ArrayList;
import java.util.List;
import java.util.TreeSet;
import java.util.function.ToLongFunction;

/**
 * Objects to refuse calls: with nothing there, with something, with all that there can be, with loads
 * that are not borne. A refused call is made on one of two alike objects; all that calls tell of both
 * must then be alike, but for count() 8 if the refusal is a FINDING.
 */
enum State {
    EMPTY(0), ONE(1), SOME(3), UNBORNE(5), FULL(5);

    static final int LEAST_INT = Integer.MIN_VALUE;
    static final int NULL = -11, INDEX = -12, CAST = -13, STORE = -14, SIZE = -15, OVER = -16;

    final int points;

    State(int points) { this.points = points; }

    /** A call with one of its numbers open. */
    interface Call { long on(LeastFrames x, int v); }

    int pairs() { return points * (points - 1) / 2; }

    /** As a long a refusal is the least long and as much more as it is below 0. */
    static long asLong(int refusal) { return Long.MIN_VALUE - refusal; }

    LeastFrames make() {
        switch (this) {
            case ONE: return one();
            case SOME: return some();
            case UNBORNE: return unborne();
            case FULL: return full();
            default: return new LeastFrames();
        }
    }

    /** One point, held, loaded and shifted all the same; SHEET 0 has no items. */
    private static LeastFrames one() {
        LeastFrames x = Due.points(4, 0);
        x.hold(0, 3);
        x.load(0, 0, -9);
        x.shift(0, 1, 999);
        x.sheet(0, 0, 0);
        return x;
    }

    /** The bracket with bars 1 and 2, while pair 0 is none; SHEETS 0, 1 of 1 int, of 2 longs; CAST. */
    private static LeastFrames some() {
        LeastFrames x = Due.bracket();
        x.bar(1);
        x.bar(2);
        x.shift(2, 1, -75);
        x.sheet(0, 0, 1);
        x.put(0, 0, 0, -7);
        x.sheet(1, 1, 2);
        x.put(1, 1, 1, 100);
        x.put(1, 0, 0, 1);
        return x;
    }

    /** Nothing is held, and the loads do not even out; SHEETS 0, 2 of 2 longs, of 12 ints. */
    private static LeastFrames unborne() {
        LeastFrames x = Due.points(0, 0, 4, 0, 1, 3, 2, 2, 3, 4);
        x.all();
        x.bar(4);
        x.load(1, 0, 5);
        x.load(3, 1, -2);
        x.shift(4, 0, 10);
        x.sheet(0, 1, 2);
        x.put(0, 1, 0, -5);
        x.sheet(2, 0, 12);
        x.put(2, 0, 11, 3);
        return x;
    }

    /** All points, all bars, five crossings; SHEETS 0, 1, 2 of 40 ints, 40 longs, 0 ints, 3 LOST; OVER. */
    private static LeastFrames full() {
        LeastFrames x = crossed();
        for (int way = 0; way < 10; way++) {
            x.shift(way / 2, way % 2, way % 2 == 0 ? 999 - way : way - 999);
        }
        x.sheet(0, 0, 40);
        x.sheet(1, 1, 40);
        for (int i = 0; i < 40; i++) {
            x.put(0, 0, i, i - 20);
            x.put(1, 1, i, i - 30);
        }
        x.sheet(2, 0, 0);
        x.put(1, 1, 0, 1 << 21);
        return x;
    }

    /** Five points, all pairs bars, and a frame in which two cross as often as two of five points can. */
    static LeastFrames crossed() {
        LeastFrames x = Due.points(2, 2, 3, 0, 4, 3, 4, 2, 2, 4);
        x.hold(0, 2);
        x.hold(1, 3);
        int[] loads = {2, -5, -3, -7, -4, 0, 0, -9, -8, 9};
        for (int way = 0; way < 10; way++) {
            x.load(way / 2, way % 2, loads[way]);
        }
        x.all();
        return x;
    }

    /** Of all numbers beyond the bounds those next to them, the utmost ones, and those alike in some bits. */
    static List<Integer> beyond(int least, int most) {
        TreeSet<Integer> values = new TreeSet<>();
        for (int near : new int[] {least, most}) {
            for (int bit = 0; bit < 32; bit++) {
                values.add(near + (1 << bit));
                values.add(near - (1 << bit));
            }
        }
        values.addAll(List.of(most + 1, least - 1, LEAST_INT, LEAST_INT + 1, Integer.MAX_VALUE, Integer.MAX_VALUE - 1));
        values.removeIf(v -> v >= least && v <= most);
        return new ArrayList<>(values);
    }

    static List<Integer> above(int most) {
        List<Integer> values = beyond(0, most);
        values.removeIf(v -> v <= most);
        return values;
    }

    static List<Integer> below(int least) {
        List<Integer> values = beyond(least, least + 40);
        values.removeIf(v -> v >= least);
        return values;
    }

    /** Each of these numbers is refused, and nothing has changed then. */
    void refused(String call, List<Integer> values, Call act, long want) {
        LeastFrames x = make();
        for (int v : values) {
            Sentence.due(this + " " + call + " with " + v, act.on(x, v), want);
        }
        unchanged(call, x, values.isEmpty() ? 0 : want);
    }

    void refused(String call, ToLongFunction<LeastFrames> act, long want) {
        LeastFrames x = make();
        Sentence.due(this + " " + call, act.applyAsLong(x), want);
        unchanged(call, x, want);
    }

    void refusedLong(String call, List<Integer> values, Call act, int want) {
        refused(call, values, act, asLong(want));
    }

    void refusedLong(String call, ToLongFunction<LeastFrames> act, int want) {
        refused(call, act, asLong(want));
    }

    private void unchanged(String call, LeastFrames x, long refusal) {
        LeastFrames y = make();
        int finding = finding(refusal);
        Sentence.due(this + " count(8) after " + call, x.count(8), finding == 0 ? y.count(8) : finding);
        alike(this + " after " + call, x, y);
    }

    private static int finding(long refusal) {
        long less = refusal < LEAST_INT ? refusal - Long.MIN_VALUE : -refusal;
        return less > 10 && less <= 16 ? (int) less - 10 : 0;
    }

    static void alike(String when, LeastFrames x, LeastFrames y) {
        Sentence.due(when + " digest()", x.digest(), y.digest());
        for (int s = 0; s < 4; s++) {
            for (int i = 0; i <= 40; i++) {
                Sentence.due(when + " get(" + s + ", " + i + ")", x.get(s, i), y.get(s, i));
            }
            // Item -1 is none of any SHEET: LOST, another FORM, no such item.
            Sentence.due(when + " FORM of " + s, x.put(s, 0, -1, 0), y.put(s, 0, -1, 0));
        }
    }
}
