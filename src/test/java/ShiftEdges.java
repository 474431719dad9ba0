import java.util.ArrayList;
import java.util.List;

/** Boundary cases of promises 23 to 27: displacements and crossings. */
final class ShiftEdges {
    private static final int BAD = LeastFrames.BAD, NOT = LeastFrames.NOT, NONE = LeastFrames.NONE;
    private static final int LEAST_INT = State.LEAST_INT;

    private ShiftEdges() { }

    static void run() {
        shift();
        shiftBad();
        stretch();
        stretchBad();
        work();
        workBad();
        proves();
        provesUnborne();
        cross();
        crossPlaces();
        crossRefused();
    }

    private static void due(String call, long got, long want) { Sentence.due(call, got, want); }

    private static void due(String call, long above, long below, long wantAbove, long wantBelow) {
        Sentence.due(call, above, below, wantAbove, wantBelow);
    }

    /** Bars 0 (points 0, 1) and 5 (points 2, 3), each held at its first point, pulled at its second one. */
    static LeastFrames twoBars(int... places) {
        LeastFrames x = oneLoaded(places);
        x.load(3, 0, places[6] - places[4]);
        x.load(3, 1, places[7] - places[5]);
        return x;
    }

    /** The same, but bar 5 has nothing to bear. */
    static LeastFrames oneLoaded(int... places) {
        LeastFrames x = Due.points(places);
        x.hold(0, 3);
        x.hold(2, 3);
        x.load(1, 0, places[2] - places[0]);
        x.load(1, 1, places[3] - places[1]);
        x.bar(0);
        x.bar(5);
        return x;
    }

    private static void shift() {
        Sentence.of(23, "SHIFT of a POINT in x (axis = 0), y (1), in twelfths: what it was");
        LeastFrames x = Due.points(0, 0, 1, 0, 2, 0, 3, 0, 4, 0);
        x.hold(3, 3);
        for (int way = 0; way < 10; way++) {
            due("at first", x.shift(way / 2, way % 2, 999), 0);
            due("the greatest was taken", x.shift(way / 2, way % 2, -999), 999);
            due("the least was taken", x.shift(way / 2, way % 2, 0), -999);
            due("0 was taken", x.shift(way / 2, way % 2, 100 * way - 450), 0);
        }
        for (int way = 0; way < 10; way++) {
            due("each has its own", x.info(way / 2, 5 + way % 2), 100 * way - 450);
        }
    }

    private static void shiftBad() {
        Sentence.of(23, "BAD: the least int");
        for (State state : State.values()) {
            int last = state.points - 1;
            state.refused("shift(p, 0, 1)", State.beyond(0, last), (x, p) -> x.shift(p, 0, 1), LEAST_INT);
            state.refused("shift(p, 1, 1)", State.beyond(0, last), (x, p) -> x.shift(p, 1, 1), LEAST_INT);
            if (last >= 0) {
                state.refused("shift(0, axis, 1)", State.beyond(0, 1), (x, a) -> x.shift(0, a, 1), LEAST_INT);
                state.refused("shift(last, 0, v)", State.beyond(-999, 999), (x, v) -> x.shift(last, 0, v), LEAST_INT);
                state.refused("shift(last, 1, v)", State.beyond(-999, 999), (x, v) -> x.shift(last, 1, v), LEAST_INT);
            }
        }
    }

    private static void stretch() {
        Sentence.of(24, "STRETCH of a PAIR: above, below");
        LeastFrames x = Due.points(0, 0, 4, 4);
        due("no shifts", x.stretch(0, 0), x.stretch(0, 1), 0, 1);
        for (int way = 0; way < 4; way++) {
            x.shift(way / 2, way % 2, 999);
        }
        due("shifts that are alike", x.stretch(0, 0), x.stretch(0, 1), 0, 1);
        x.shift(0, 0, -999);
        x.shift(0, 1, -999);
        due("the greatest", x.stretch(0, 0), x.stretch(0, 1), 1332, 1);
        x.hold(1, 1);
        due("held in x", x.stretch(0, 0), x.stretch(0, 1), 999, 1);
        x.hold(1, 3);
        x.shift(0, 1, 998);
        due("below 0, by thirds", x.stretch(0, 0), x.stretch(0, 1), 1, 3);
        x.shift(0, 0, 999);
        due("below 0", x.stretch(0, 0), x.stretch(0, 1), -1997, 3);
        x.back();
        x.point(0, 1);
        x.shift(0, 1, 1);
        due("of another point, a twelfth", x.stretch(0, 0), x.stretch(0, 1), -1, 12);
        due("no bar, but a pair", x.count(1), 0);
    }

    private static void stretchBad() {
        Sentence.of(24, "BAD");
        for (State state : State.values()) {
            int last = state.pairs() - 1;
            state.refusedLong("stretch(k, 0)", State.beyond(0, last), (x, k) -> x.stretch(k, 0), BAD);
            state.refusedLong("stretch(k, 1)", State.beyond(0, last), (x, k) -> x.stretch(k, 1), BAD);
            if (last >= 0) {
                state.refusedLong("stretch(last, what)", State.beyond(0, 1), (x, what) -> x.stretch(last, what), BAD);
            }
        }
    }

    private static void work() {
        Sentence.of(25, "WORK: above, below");
        LeastFrames x = new LeastFrames();
        due("no points", x.work(0), x.work(1), 0, 1);
        x.point(0, 0);
        x.load(0, 0, 9);
        due("no shifts", x.work(0), x.work(1), 0, 1);
        x.load(0, 0, 0);
        x.shift(0, 0, 999);
        due("no loads", x.work(0), x.work(1), 0, 1);
        x.load(0, 0, 1);
        x.shift(0, 0, -1);
        due("a twelfth below 0", x.work(0), x.work(1), -1, 12);
        x.load(0, 1, 1);
        x.shift(0, 1, 1);
        due("both together none", x.work(0), x.work(1), 0, 1);
        due("UNBORNE, all the same", State.UNBORNE.make().work(0), 0);
    }

    private static void workBad() {
        Sentence.of(25, "BAD");
        for (State state : State.values()) {
            state.refusedLong("work", State.beyond(0, 1), (x, what) -> x.work(what), BAD);
        }
    }

    private static void proves() {
        Sentence.of(26, "0: not BOUNDED, 1: BOUNDED, 2: BOUNDED, and WORK is LEAST");
        due("no points", new LeastFrames().proves(), 2);
        LeastFrames x = Due.bracket();
        x.all();
        due("no WORK", x.proves(), 1);
        x.shift(2, 0, -48);
        x.shift(2, 1, -164);
        due("both bars at their bounds", x.proves(), 2);
        x.shift(2, 1, -163);
        due("a little less WORK", x.proves(), 1);
        x.shift(2, 1, -165);
        due("a little beyond a bound, more WORK", x.proves(), 0);
        x.shift(2, 1, 164);
        x.shift(2, 0, 48);
        due("WORK is LEAST but for its sign", x.proves(), 1);
        x.load(2, 1, 6);
        due("and for the other load", x.proves(), 2);
        // A pull of 9 by bar 0 alone: 9 times a shift of 12 twelfths is LEAST, by a bar that does not care.
        x = Due.points(0, 0, 1, 0);
        x.hold(0, 3);
        x.load(1, 0, 9);
        x.all();
        x.shift(1, 0, 12);
        due("WORK is LEAST", x.proves(), 2);
        x.shift(1, 0, 13);
        due("WORK is more than LEAST", x.proves(), 0);
        x.shift(1, 0, 11);
        due("WORK is less", x.proves(), 1);
    }

    private static void provesUnborne() {
        Sentence.of(26, "0: not BOUNDED, 1: BOUNDED");
        LeastFrames x = State.UNBORNE.make();
        due("UNBORNE, not BOUNDED", x.proves(), 1);
        x.shift(4, 0, 999);
        due("UNBORNE, BOUNDED", x.proves(), 0);
        x = Due.points(0, 0, 4, 4);
        x.load(1, 0, 9);
        x.shift(1, 0, 999);
        due("no bars: BOUNDED", x.proves(), 1);
    }

    /** All crossings by the document's words: lesser one, greater one, x, y; by the ends of the bars. */
    private static List<long[]> crossings(LeastFrames x) {
        List<long[]> list = new ArrayList<>();
        for (int one = 0; one < 10; one++) {
            for (int other = one + 1; other < 10; other++) {
                if ((x.frame() >> one & 1) == 1 && (x.frame() >> other & 1) == 1) {
                    long[] told = crossing(x, one, other);
                    if (told != null) {
                        list.add(told);
                    }
                }
            }
        }
        return list;
    }

    private static long side(long[] a, long[] b, long[] c) {
        return (b[0] - a[0]) * (c[1] - a[1]) - (b[1] - a[1]) * (c[0] - a[0]);
    }

    private static long[] crossing(LeastFrames x, int one, int other) {
        long[][] ends = new long[4][];
        for (int e = 0; e < 4; e++) {
            int p = x.pair(e < 2 ? one : other, e % 2);
            ends[e] = new long[] {x.info(p, 0), x.info(p, 1)};
        }
        long from = side(ends[2], ends[3], ends[0]), to = side(ends[2], ends[3], ends[1]);
        long left = side(ends[0], ends[1], ends[2]), right = side(ends[0], ends[1], ends[3]);
        if (from * to >= 0 || left * right >= 0) {
            return null;
        }
        long[] told = {one, other, 0, 0, 0, 0};
        for (int axis = 0; axis < 2; axis++) {
            Fraction way = Fraction.of(from, from - to).times(Fraction.of(ends[1][axis] - ends[0][axis]));
            Fraction at = way.plus(Fraction.of(ends[0][axis]));
            told[2 + 2 * axis] = at.part(0);
            told[3 + 2 * axis] = at.part(1);
        }
        return told;
    }

    private static void sameCrossings(String call, LeastFrames x, int howMany) {
        List<long[]> told = crossings(x);
        due(call + ": how many", told.size(), howMany);
        due(call + ": count(6)", x.count(6), howMany);
        for (int c = 0; c < told.size(); c++) {
            for (int what = 0; what <= 5; what++) {
                due(call + ": cross(" + c + ", " + what + ")", x.cross(c, what), told.get(c)[what]);
            }
        }
        due(call + ": one more", x.cross(told.size(), 0), BAD);
    }

    private static void cross() {
        Sentence.of(27, "Of the k-th two BARS that CROSS the lesser one (what = 0), the greater one (1), where they do:"
            + " x above (2), below (3), y above (4), below (5)");
        sameCrossings("five points", State.FULL.make(), 5);
        sameCrossings("a bracket", State.SOME.make(), 0);
        sameCrossings("no points", State.EMPTY.make(), 0);
        LeastFrames x = twoBars(0, 0, 1, 1, 1, 0, 0, 1);
        int[] told = {0, 5, 1, 2, 1, 2};
        for (int what = 0; what <= 5; what++) {
            due("cross(0, " + what + ")", x.cross(0, what), told[what]);
        }
        x.prune();
        x.load(3, 0, 0);
        x.load(3, 1, 0);
        due("a bar that is not of FRAME any more", x.cross(0, 0), BAD);
    }

    /** All two bars between four of nine places. */
    private static void crossPlaces() {
        Sentence.of(27, "Of the k-th two BARS that CROSS");
        int met = 0;
        for (int code = 0; code < 9 * 9 * 9 * 9; code++) {
            int[] at = {code % 9, code / 9 % 9, code / 81 % 9, code / 729};
            int[] places = new int[8];
            for (int p = 0; p < 4; p++) {
                places[2 * p] = at[p] % 3 + 2;
                places[2 * p + 1] = at[p] / 3 + 1;
            }
            if (distinct(places)) {
                LeastFrames x = twoBars(places);
                int due = crossings(x).size();
                sameCrossings("bars of " + code, x, due);
                met += due;
            }
        }
        due("some do", met > 50 ? 1 : 0, 1);
    }

    private static boolean distinct(int[] places) {
        for (int p = 0; p < 4; p++) {
            for (int q = 0; q < p; q++) {
                if (places[2 * p] == places[2 * q] && places[2 * p + 1] == places[2 * q + 1]) {
                    return false;
                }
            }
        }
        return true;
    }

    private static void crossRefused() {
        Sentence.of(27, "BAD: k below 0, what");
        for (State state : State.values()) {
            state.refused("cross(k, 0)", State.below(0), (x, k) -> x.cross(k, 0), BAD);
            state.refused("cross(0, what)", State.beyond(0, 5), (x, what) -> x.cross(0, what), BAD);
            state.refused("cross(9, what)", State.beyond(0, 5), (x, what) -> x.cross(9, what), BAD);
        }
        State.UNBORNE.refused("k below 0 ahead of NOT", x -> x.cross(-1, 0), BAD);
        State.UNBORNE.refused("what ahead of NOT", x -> x.cross(0, 6), BAD);
        Sentence.of(27, "NOT: UNBORNE");
        State.UNBORNE.refused("ahead of not so many", List.of(0, 1, 5, 45, Integer.MAX_VALUE), (x, k) -> x.cross(k, 0), NOT);
        State.UNBORNE.refused("of each", List.of(0, 1, 2, 3, 4, 5), (x, what) -> x.cross(0, what), NOT);
        Sentence.of(27, "BAD: there are not so many");
        State.EMPTY.refused("of none", State.above(-1), (x, k) -> x.cross(k, 0), BAD);
        State.SOME.refused("of none", State.above(-1), (x, k) -> x.cross(k, 5), BAD);
        State.FULL.refused("of five", State.above(4), (x, k) -> x.cross(k, 0), BAD);
        due("the fifth", State.FULL.make().cross(4, 0) >= 0 ? 1 : 0, 1);
    }
}
