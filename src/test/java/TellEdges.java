import java.math.BigInteger;
import java.util.ArrayList;
import java.util.List;

/** Boundary cases of promises 34 and 35: counts and the digest. */
final class TellEdges {
    private static final int BAD = LeastFrames.BAD, NONE = LeastFrames.NONE;
    private static final BigInteger ROUND = BigInteger.ONE.shiftLeft(64);

    private TellEdges() { }

    static void run() {
        count();
        countUnborne();
        countFindings();
        countBad();
        digestOfNothing();
        digestCounts();
        digestLeast();
        digestPoints();
        digestPairs();
        digestWork();
        digestCrossings();
        digestWraps();
    }

    private static void due(String call, long got, long want) { Sentence.due(call, got, want); }

    private static void counts(String of, LeastFrames x, int... told) {
        for (int what = 0; what < told.length; what++) {
            due(of + " count(" + what + ")", x.count(what), told[what]);
        }
    }

    private static void count() {
        Sentence.of(34, "0 POINTS, 1 BARS, 2 WAYS, 3 BARS of FRAME (NONE: UNBORNE), 4 NEEDED ones (NONE), 5 whether LOADS"
            + " are borne (1, 0), 6 how many times two CROSS (NONE), 7 proves(), 8 the number of the latest FINDING"
            + " (0 before any)");
        counts("nothing", State.EMPTY.make(), 0, 0, 0, 0, 0, 1, 0, 2, 0);
        counts("one point", State.ONE.make(), 1, 0, 0, 0, 0, 1, 0, 2, 0);
        counts("the bracket", State.SOME.make(), 3, 2, 2, 2, 2, 1, 0, 1, 3);
        counts("all there can be", State.FULL.make(), 5, 10, 7, 7, 6, 1, 5, 0, 6);
        LeastFrames x = Due.points(2, 0, 0, 0, 4, 0);
        x.hold(1, 3);
        x.hold(2, 3);
        x.load(0, 0, 9);
        x.all();
        counts("of two alike one is of FRAME, none NEEDED", x, 3, 3, 2, 1, 0, 1, 0, 1, 0);
    }

    private static void countUnborne() {
        Sentence.of(34, "3 BARS of FRAME (NONE: UNBORNE), 4 NEEDED ones (NONE), 5 whether LOADS are borne (1, 0), 6 how"
            + " many times two CROSS (NONE)");
        counts("UNBORNE", State.UNBORNE.make(), 5, 9, 10, NONE, NONE, 0, NONE, 1, 0);
        LeastFrames x = Due.points(0, 0);
        x.load(0, 1, -1);
        counts("one point, UNBORNE", x, 1, 0, 2, NONE, NONE, 0, NONE, 1, 0);
    }

    private static void countFindings() {
        Sentence.of(34, "8 the number of the latest FINDING (0 before any)");
        LeastFrames x = State.UNBORNE.make();
        due("before any", x.count(8), 0);
        x.point(9, 9);
        x.least(0);
        x.sheet(4, 0, -1);
        due("other refusals are none", x.count(8), 0);
        long[][] found = {{x.lose(1), x.count(8), 1}, {x.get(2, 12), x.count(8), 2}, {x.put(2, 1, 0, 0), x.count(8), 3},
            {x.copy(0, 0, 2, 0, 0), x.count(8), 4}, {x.sheet(0, 0, -1), x.count(8), 5}, {x.put(0, 1, 0, 3000000), x.count(8), 6},
            {x.get(3, 0), x.count(8), 1}, {x.put(2, 0, 12, 0), x.count(8), 2}, {x.read(3), x.count(8), 1},
            {x.copy(2, 0, 2, 0, 13), x.count(8), 2}, {x.write(3), x.count(8), 1}, {x.put(0, 0, 0, 0), x.count(8), 3},
            {x.put(3, 0, 0, 0), x.count(8), 1}, {x.copy(0, 0, 3, 0, 0), x.count(8), 1}};
        for (long[] f : found) {
            due("the latest", f[1], f[2]);
        }
        x.sheet(0, 0, 1);
        x.put(0, 0, 0, 1);
        x.get(0, 0);
        x.count(9);
        due("what is no FINDING leaves it", x.count(8), 1);
    }

    private static void countBad() {
        Sentence.of(34, "BAD");
        for (State state : State.values()) {
            state.refused("count", State.beyond(0, 8), (x, what) -> x.count(what), BAD);
        }
    }

    /** All that the digest takes in, in its order, told by the other calls. */
    private static List<Long> told(LeastFrames x) {
        List<Long> list = new ArrayList<>();
        for (int what = 0; what <= 7; what++) {
            list.add((long) x.count(what));
        }
        list.addAll(List.of(x.least(0), x.least(1), (long) x.fault(), (long) x.frame(), (long) x.needed()));
        list.add((long) x.dearest());
        int points = x.count(0);
        for (int p = 0; p < points; p++) {
            for (int what = 0; what <= 6; what++) {
                list.add((long) x.info(p, what));
            }
        }
        for (int k = 0; k < points * (points - 1) / 2; k++) {
            tellPair(list, x, k);
        }
        list.add(x.work(0));
        list.add(x.work(1));
        for (int c = 0; c < x.count(6); c++) {
            for (int what = 0; what <= 5; what++) {
                list.add((long) x.cross(c, what));
            }
        }
        return list;
    }

    private static void tellPair(List<Long> list, LeastFrames x, int k) {
        for (int what = 0; what <= 3; what++) {
            list.add((long) x.pair(k, what));
        }
        list.addAll(List.of(x.pull(k, 0), x.pull(k, 1), x.stretch(k, 0), x.stretch(k, 1)));
        if (x.pair(k, 3) == 1) {
            list.addAll(List.of(x.without(k, 0), x.without(k, 1), (long) x.why(k)));
        } else {
            list.addAll(List.of(x.gain(k, 0), x.gain(k, 1)));
        }
    }

    private static BigInteger whole(List<Long> told) {
        BigInteger h = BigInteger.valueOf(17);
        for (long v : told) {
            h = h.multiply(BigInteger.valueOf(31)).add(BigInteger.valueOf(v));
        }
        return h;
    }

    private static void asTold(String of, LeastFrames x) {
        due("digest of " + of, x.digest(), whole(told(x)).mod(ROUND).longValue());
    }

    private static void digestOfNothing() {
        Sentence.of(35, "h is 17");
        // Counts 0 0 0 0 0 1 0 2, least 0 1, fault -1, frame 0, needed 0, dearest -1, work 0 1.
        List<Long> told = List.of(0L, 0L, 0L, 0L, 0L, 1L, 0L, 2L, 0L, 1L, -1L, 0L, 0L, -1L, 0L, 1L);
        due("digest of nothing", new LeastFrames().digest(), whole(told).mod(ROUND).longValue());
    }

    private static void digestCounts() {
        Sentence.of(35, "h becomes 31 h and each of (of each thing all that is told of it, then of the next one): count()"
            + " 0 to 7");
        for (State state : State.values()) {
            asTold(state.toString(), state.make());
        }
        LeastFrames x = State.FULL.make(), y = State.FULL.make();
        x.lose(3);
        x.lose(0);
        x.put(1, 1, 0, 7);
        due("not count() 8, nor the SHEETS", x.digest(), y.digest());
    }

    private static void digestLeast() {
        Sentence.of(35, "least(0 and 1), fault(), frame(), needed(), dearest()");
        asTold("UNBORNE loads", State.UNBORNE.make());
        asTold("a fraction", LeastEdges.farPull());
        asTold("some NEEDED", LeastEdges.lineAndPost());
        asTold("two lines", LeastEdges.twoLines(3, 4));
        LeastFrames x = Due.points(0, 0);
        x.load(0, 0, 1);
        // Counts 1 0 2 -1 -1 0 -1 1, least NOT NOT, fault 0, NOT, NOT, NOT, the point, work 0 1.
        List<Long> told = List.of(1L, 0L, 2L, -1L, -1L, 0L, -1L, 1L, Long.MIN_VALUE + 3, Long.MIN_VALUE + 3, 0L, -3L, -3L,
            -3L, 0L, 0L, 0L, 1L, 0L, 0L, 0L, 0L, 1L);
        due("digest of one point, UNBORNE", x.digest(), whole(told).mod(ROUND).longValue());
    }

    private static LeastFrames somePoints(int points) {
        LeastFrames x = new LeastFrames();
        for (int p = 0; p < points; p++) {
            x.point(p, 4 - p);
            x.hold(p, p % 4);
            x.shift(p, 1, 999 - p);
            x.load(p, p % 2, p % 2 == 0 ? 0 : 9);
        }
        return x;
    }

    private static void digestPoints() {
        Sentence.of(35, "of POINTS info() 0 to 6");
        for (int points = 0; points <= 5; points++) {
            asTold(points + " points", somePoints(points));
            LeastFrames x = somePoints(5);
            for (int p = 5; p > points; p--) {
                x.back();
            }
            asTold(points + " points are left", x);
        }
    }

    private static void digestPairs() {
        Sentence.of(35, "of PAIRS of POINTS that there are pair() 0 to 3, pull(it, 0 and 1), stretch(it, 0 and 1), and of"
            + " BARS without(it, 0 and 1), why(), of others gain(it, 0 and 1)");
        for (int gone = 0; gone <= 10; gone++) {
            LeastFrames x = State.FULL.make();
            for (int k = 0; k < gone; k++) {
                x.bar(k);
            }
            asTold("the first pairs, " + gone + ", are no bars", x);
        }
        for (int turn = 0; turn < 3; turn++) {
            LeastFrames y = LeastEdges.tower(747, 3, 6, 0, 0, 2, 1, 0, 4, 4, 4, 1, 2);
            if (turn > 0) {
                y.grow();
            }
            if (turn > 1) {
                y.prune();
            }
            asTold("bars that would save, that grew, that are left: " + turn, y);
        }
    }

    private static void digestWork() {
        Sentence.of(35, "work(0 and 1)");
        LeastFrames x = Due.bracket();
        x.all();
        for (int v : new int[] {-999, -1, 0, 1, 999}) {
            x.shift(2, 1, v);
            asTold("a shift of " + v, x);
        }
    }

    private static void digestCrossings() {
        Sentence.of(35, "of CROSSINGS cross() 0 to 5");
        asTold("no crossing", ShiftEdges.twoBars(0, 0, 4, 0, 0, 1, 4, 1));
        asTold("one crossing", ShiftEdges.twoBars(0, 0, 4, 3, 0, 3, 3, 0));
        asTold("five crossings", State.crossed());
    }

    private static void digestWraps() {
        Sentence.of(35, "as longs that wrap");
        LeastFrames x = State.FULL.make();
        BigInteger whole = whole(told(x));
        due("it is no long", whole.bitLength() > 63 ? 1 : 0, 1);
        due("its lowest bits, with their sign", x.digest(), whole.longValue());
    }
}
