import java.util.List;
import java.util.Random;

/** Boundary cases of promises 11 to 22: the least. */
final class LeastEdges {
    private static final int BAD = LeastFrames.BAD, NOT = LeastFrames.NOT, NONE = LeastFrames.NONE;
    private static final List<State> BORNE = List.of(State.EMPTY, State.ONE, State.SOME, State.FULL);

    private LeastEdges() { }

    static void run() {
        least();
        leastRefused();
        fault();
        frame();
        pull();
        pullRefused();
        without();
        withoutRefused();
        why();
        whyRefused();
        needed();
        dearest();
        gain();
        gainRefused();
        grow();
        prune();
        would();
        wouldRefused();
        wouldNot();
    }

    private static void due(String call, long got, long want) { Sentence.due(call, got, want); }

    private static void due(String call, long above, long below, long wantAbove, long wantBelow) {
        Sentence.due(call, above, below, wantAbove, wantBelow);
    }

    /** Point 0 free between 1 and 2, which are held; its load of 3 costs 3 by bar 0, 9 by bar 1. */
    static LeastFrames line() {
        LeastFrames x = Due.points(1, 0, 0, 0, 4, 0);
        x.hold(1, 3);
        x.hold(2, 3);
        x.load(0, 0, 3);
        return x;
    }

    /** The line with bars 0 and 1, and bar 4 by which point 3 alone hangs: NEEDED are 0 and 4. */
    static LeastFrames lineAndPost() {
        LeastFrames x = line();
        x.point(0, 2);
        x.hold(3, 1);
        x.load(3, 1, 2);
        x.bar(0);
        x.bar(1);
        x.bar(4);
        return x;
    }

    /** Points 2 and 3 between 0 and 1, which are held; each has a cheap bar (1, 4) and a dear one (2, 3). */
    static LeastFrames twoLines(int load, int other) {
        LeastFrames x = Due.points(0, 0, 4, 0, 1, 0, 3, 0);
        x.hold(0, 3);
        x.hold(1, 3);
        x.load(2, 0, load);
        x.load(3, 0, other);
        for (int k = 1; k <= 4; k++) {
            x.bar(k);
        }
        return x;
    }

    /** Points 0 and 1 are held, one other is loaded in y; bars as bits. */
    static LeastFrames tower(int bars, int point, int load, int... places) {
        LeastFrames x = Due.points(places);
        x.hold(0, 3);
        x.hold(1, 3);
        x.load(point, 1, load);
        setBars(x, bars);
        return x;
    }

    private static void setBars(LeastFrames x, int bars) {
        for (int k = 0; k < 10; k++) {
            if ((bars >> k & 1) == 1) {
                x.bar(k);
            }
        }
    }

    /** Which are bars, as bits. */
    static int bars(LeastFrames x) {
        int bits = 0;
        for (int k = 0; x.pair(k, 3) >= 0; k++) {
            bits |= x.pair(k, 3) << k;
        }
        return bits;
    }

    /** A frame of seven bars, one of which pushes by 57663, by 1001: more than 16 bits hold. */
    static LeastFrames farPull() {
        LeastFrames x = Due.points(4, 2, 2, 0, 0, 3, 3, 4, 4, 0);
        int[] held = {0, 0, 3, 1, 0};
        int[] loads = {-9, -9, -9, -9, -9, 2, 8, -9, -9, -9};
        for (int way = 0; way < 10; way++) {
            x.hold(way / 2, held[way / 2]);
            x.load(way / 2, way % 2, loads[way]);
        }
        setBars(x, 830);
        return x;
    }

    static final int[] FAR_ABOVE = {0, -27, -27, 45, 45, -57663, 0, 0, -45, 63};
    static final int[] FAR_BELOW = {1, 7, 11, 7, 11, 1001, 1, 1, 13, 13};

    private static void least() {
        Sentence.of(11, "LEAST: above (what = 0), below (1)");
        LeastFrames x = new LeastFrames();
        due("no points", x.least(0), x.least(1), 0, 1);
        x.point(0, 0);
        due("no pairs", x.least(0), x.least(1), 0, 1);
        x = Due.points(0, 0, 1, 0, 2, 0, 3, 0, 4, 0);
        due("no bars, no loads", x.least(0), x.least(1), 0, 1);
        due("seven bars", farPull().least(0), farPull().least(1), 945090, 1001);
        due("all bars", State.FULL.make().least(0), State.FULL.make().least(1), 116, 1);
        x = Due.bracket();
        x.all();
        x.load(2, 1, -5);
        due("by thirds", x.least(0), x.least(1), 205, 3);
        alongEachPair();
    }

    /** Nothing is held, and all bars are there: what pulls two points apart is best borne between them. */
    private static void alongEachPair() {
        for (int k = 0; k < 10; k++) {
            LeastFrames x = Due.points(0, 0, 4, 1, 1, 4, 3, 3, 2, 0);
            x.all();
            int i = x.pair(k, 0), j = x.pair(k, 1);
            for (int axis = 0; axis < 2; axis++) {
                int apart = x.info(j, axis) - x.info(i, axis);
                x.load(i, axis, -apart);
                x.load(j, axis, apart);
            }
            due("along pair " + k, x.least(0), x.least(1), x.pair(k, 2), 1);
            due("by pair " + k, x.frame(), 1 << k);
        }
    }

    private static void leastRefused() {
        Sentence.of(11, "BAD");
        for (State state : State.values()) {
            state.refusedLong("least", State.beyond(0, 1), (x, what) -> x.least(what), BAD);
        }
        Sentence.of(11, "NOT: UNBORNE");
        State.UNBORNE.refusedLong("least", List.of(0, 1), (x, what) -> x.least(what), NOT);
    }

    private static void fault() {
        Sentence.of(12, "FAULT");
        // Point 4, whose ways come last, could bear them all, but for their turning about it.
        due("of loads that do not even out", State.UNBORNE.make().fault(), 7);
        LeastFrames x = Due.points(0, 0, 1, 0, 2, 0, 3, 0, 4, 0);
        for (int way = 9; way >= 0; way--) {
            x.load(way / 2, way % 2, way % 2 == 0 ? 9 : -9);
            due("the first of those that are loaded", x.fault(), way);
        }
        faultByHolding();
        Sentence.of(12, "NONE: they are not UNBORNE");
        for (State state : BORNE) {
            due(state + " fault", state.make().fault(), NONE);
        }
        due("no loads, no bars", Due.points(0, 0, 4, 4).fault(), NONE);
        x = Due.points(0, 0, 1, 0, 2, 0, 3, 0, 4, 0);
        for (int p = 0; p < 5; p++) {
            x.hold(p, 3);
            x.load(p, 0, 9);
            x.load(p, 1, -9);
        }
        due("no WAYS", x.fault(), NONE);
    }

    /** Were all ways behind FAULT held, the loads were still UNBORNE; were it held, too, they were not. */
    private static void faultByHolding() {
        int unborne = 0;
        for (int n = 0; n < 400; n++) {
            LeastFrames x = scattered(n);
            int fault = x.fault();
            due("whether " + n + " has a fault", fault == NONE ? 1 : 0, x.count(5));
            if (fault >= 0) {
                unborne++;
                for (int way = 9; way > fault; way--) {
                    x.hold(way / 2, x.info(way / 2, 2) | 1 + way % 2);
                }
                due("the ways up to it, of " + n, x.count(5), 0);
                x.hold(fault / 2, x.info(fault / 2, 2) | 1 + fault % 2);
                due("the ways ahead of it, of " + n, x.count(5), 1);
            }
        }
        due("some are UNBORNE, some are not", unborne > 100 && unborne < 300 ? 1 : 0, 1);
    }

    /** Five points here and there, of which some are held, some loaded, and some pairs are bars. */
    private static LeastFrames scattered(int n) {
        Random random = new Random(n);
        LeastFrames x = new LeastFrames();
        for (int i = 0; i < 60 && x.count(0) < 5; i++) {
            x.point(random.nextInt(5), random.nextInt(5));
        }
        for (int p = 0; p < 5; p++) {
            x.hold(p, random.nextInt(3) == 0 ? random.nextInt(4) : 0);
            x.load(p, random.nextInt(2), random.nextInt(3) == 0 ? random.nextInt(19) - 9 : 0);
        }
        x.hold(n % 5, 3);
        setBars(x, random.nextInt(1024) | random.nextInt(1024) | random.nextInt(1024));
        return x;
    }

    private static void frame() {
        Sentence.of(13, "FRAME, as bits");
        int[] frames = {0, 0, 6, 0, 687};
        for (State state : BORNE) {
            due(state + " frame", state.make().frame(), frames[state.ordinal()]);
        }
        due("the greatest pair", farPull().frame(), 830);
        LeastFrames x = Due.points(0, 0, 1, 0, 2, 0, 3, 0, 4, 0);
        x.hold(3, 3);
        x.load(4, 0, 1);
        x.bar(9);
        due("pair 9 alone", x.frame(), 512);
        Sentence.of(13, "NOT: UNBORNE");
        State.UNBORNE.refused("frame", LeastFrames::frame, NOT);
    }

    private static void pull() {
        Sentence.of(14, "The PULL of a PAIR by FRAME (0 by 1, if it is not of it): above, below");
        LeastFrames x = farPull();
        for (int k = 0; k < 10; k++) {
            due("pull of " + k, x.pull(k, 0), x.pull(k, 1), FAR_ABOVE[k], FAR_BELOW[k]);
        }
        x = State.SOME.make();
        due("no bar", x.pull(0, 0), x.pull(0, 1), 0, 1);
        due("it pushes", x.pull(1, 0), x.pull(1, 1), -2, 1);
        due("it pulls", x.pull(2, 0), x.pull(2, 1), 2, 1);
        x.bar(0);
        due("a bar that is not of FRAME", x.pull(0, 0), x.pull(0, 1), 0, 1);
        x = Due.points(0, 0, 4, 4);
        due("no bars, no loads", x.pull(0, 0), x.pull(0, 1), 0, 1);
        x.all();
        due("no loads", x.pull(0, 0), x.pull(0, 1), 0, 1);
    }

    private static void pullRefused() {
        Sentence.of(14, "BAD");
        for (State state : State.values()) {
            int last = state.pairs() - 1;
            state.refusedLong("pull(k, 0)", State.beyond(0, last), (x, k) -> x.pull(k, 0), BAD);
            state.refusedLong("pull(k, 1)", State.beyond(0, last), (x, k) -> x.pull(k, 1), BAD);
            if (last >= 0) {
                state.refusedLong("pull(last, what)", State.beyond(0, 1), (x, what) -> x.pull(last, what), BAD);
            }
        }
        Sentence.of(14, "NOT: UNBORNE");
        for (int what = 0; what <= 1; what++) {
            int w = what;
            List<Integer> pairs = List.of(0, 1, 2, 3, 4, 5, 6, 7, 8, 9);
            State.UNBORNE.refusedLong("pull(k, " + w + ")", pairs, (x, k) -> x.pull(k, w), NOT);
        }
    }

    private static void without() {
        Sentence.of(15, "What LEAST were without a BAR: above, below");
        LeastFrames x = line();
        x.all();
        due("dearer", x.without(0, 0), x.without(0, 1), 9, 1);
        due("as dear", x.without(1, 0), x.without(1, 1), 3, 1);
        due("of no use", x.without(2, 0), x.without(2, 1), 3, 1);
        due("it is still one", x.count(1), 3);
        x.load(0, 0, 0);
        due("nothing to bear", x.without(0, 0), x.without(0, 1), 0, 1);
        x = State.SOME.make();
        x.load(2, 1, -5);
        x.bar(0);
        due("by thirds", x.without(0, 0), x.without(0, 1), 205, 3);
        x = Due.points(0, 0, 4, 4);
        x.all();
        due("the only one, nothing to bear", x.without(0, 0), x.without(0, 1), 0, 1);
    }

    private static void withoutRefused() {
        Sentence.of(15, "BAD: it is none");
        for (State state : State.values()) {
            int last = state.pairs() - 1;
            state.refusedLong("without(k, 0)", State.beyond(0, last), (x, k) -> x.without(k, 0), BAD);
            state.refusedLong("without(k, 1)", State.beyond(0, last), (x, k) -> x.without(k, 1), BAD);
        }
        State.SOME.refusedLong("no bar", x -> x.without(0, 0), BAD);
        State.UNBORNE.refusedLong("no bar: ahead of NOT", x -> x.without(4, 1), BAD);
        State.SOME.refusedLong("without(1, what)", State.beyond(0, 1), (x, what) -> x.without(1, what), BAD);
        State.FULL.refusedLong("without(9, what)", State.beyond(0, 1), (x, what) -> x.without(9, what), BAD);
        State.UNBORNE.refusedLong("without(9, what): ahead of NOT", State.beyond(0, 1),
            (x, what) -> x.without(9, what), BAD);
        Sentence.of(15, "NOT: UNBORNE then");
        State.SOME.refusedLong("without(1, what)", List.of(0, 1), (x, what) -> x.without(1, what), NOT);
        State.SOME.refusedLong("without(2, what)", List.of(0, 1), (x, what) -> x.without(2, what), NOT);
        State.UNBORNE.refusedLong("as it is, too", List.of(0, 1), (x, what) -> x.without(9, what), NOT);
    }

    private static void why() {
        Sentence.of(16, "What FAULT were without a BAR");
        LeastFrames x = State.SOME.make();
        due("y comes behind x", x.why(1), 5);
        due("y comes behind x", x.why(2), 5);
        x.load(2, 0, 1);
        due("with a load in x, too: bar 2 bears it, y not", x.why(1), 5);
        x.bar(1);
        due("without any: x", x.why(2), 4);
        due("UNBORNE as it is", State.UNBORNE.make().why(9), 7);
        x = Due.points(0, 0, 1, 0);
        x.load(0, 0, -1);
        x.load(1, 0, 1);
        x.all();
        due("the first way", x.why(0), 0);
        Sentence.of(16, "NONE: none");
        for (int k = 0; k < 10; k++) {
            due("of all bars any one", State.FULL.make().why(k), NONE);
        }
        x = Due.points(0, 0, 4, 4);
        x.all();
        due("nothing to bear", x.why(0), NONE);
    }

    private static void whyRefused() {
        Sentence.of(16, "BAD: it is none");
        for (State state : State.values()) {
            state.refused("why", State.beyond(0, state.pairs() - 1), (x, k) -> x.why(k), BAD);
        }
        State.SOME.refused("no bar", x -> x.why(0), BAD);
        State.UNBORNE.refused("no bar", x -> x.why(4), BAD);
    }

    private static void needed() {
        Sentence.of(17, "BARS that are NEEDED, as bits");
        due("no points", new LeastFrames().needed(), 0);
        due("no bars", State.ONE.make().needed(), 0);
        due("all bars of it", State.SOME.make().needed(), 6);
        due("seven bars, none to spare", farPull().needed(), 830);
        due("six of seven in FRAME", State.FULL.make().needed(), 683);
        LeastFrames x = farPull();
        x.all();
        for (int k = 0; k < 10; k++) {
            boolean dearer = x.without(k, 0) < 0 || Fraction.of(x.without(k, 0), x.without(k, 1))
                .compareTo(Fraction.of(x.least(0), x.least(1))) > 0;
            due("whether dearer without " + k, x.needed() >> k & 1, dearer ? 1 : 0);
        }
        x = Due.points(0, 0, 1, 0, 2, 0, 3, 0, 4, 0);
        x.hold(0, 3);
        x.load(4, 0, 1);
        x.all();
        due("many are as cheap", x.needed(), 0);
        Sentence.of(17, "NOT: UNBORNE");
        State.UNBORNE.refused("needed", LeastFrames::needed, NOT);
    }

    private static void dearest() {
        Sentence.of(18, "DEAREST");
        due("of those without which they are UNBORNE the least", State.SOME.make().dearest(), 1);
        due("UNBORNE is dearer than dear", lineAndPost().dearest(), 4);
        due("the dearest of two", twoLines(8, 9).dearest(), 4);
        due("the dearest of two", twoLines(9, 8).dearest(), 1);
        due("alike, without their signs", twoLines(-9, 9).dearest(), 1);
        LeastFrames y = line();
        y.point(3, 0);
        for (int k : new int[] {0, 1, 4, 5}) {
            y.bar(k);
        }
        for (int v = 1; v <= 9; v++) {
            y.load(3, 0, v);
            due("needed", y.needed(), 33);
            due("pair 0 with 3, or pair 5 with " + v, y.dearest(), v <= 3 ? 0 : 5);
        }
        LeastFrames x = Due.points(0, 0, 1, 0, 2, 0, 3, 0, 4, 0);
        x.hold(3, 3);
        x.load(4, 0, 1);
        x.bar(9);
        due("pair 9", x.dearest(), 9);
        Sentence.of(18, "NONE: none is NEEDED");
        due("no points", new LeastFrames().dearest(), NONE);
        due("one point", State.ONE.make().dearest(), NONE);
        x.load(4, 0, 0);
        due("nothing to bear", x.dearest(), NONE);
        x = Due.points(2, 0, 0, 0, 4, 0);
        x.hold(1, 3);
        x.hold(2, 3);
        x.load(0, 0, 9);
        x.all();
        due("one of two alike", x.dearest(), NONE);
        Sentence.of(18, "NOT: UNBORNE");
        State.UNBORNE.refused("dearest", LeastFrames::dearest, NOT);
    }

    private static void gain() {
        Sentence.of(19, "GAIN: above, below");
        LeastFrames x = line();
        x.bar(1);
        due("what it saves", x.gain(0, 0), x.gain(0, 1), 6, 1);
        due("nothing", x.gain(2, 0), x.gain(2, 1), 0, 1);
        due("it is still no bar", x.count(1), 1);
        x = State.SOME.make();
        due("between held points", x.gain(0, 0), x.gain(0, 1), 0, 1);
        x.load(2, 1, -5);
        x.point(4, 4);
        x.hold(3, 3);
        due("205 by 3 less 20", x.gain(5, 0), x.gain(5, 1), 145, 3);
        x = Due.points(0, 0, 4, 4);
        due("no bars, nothing to bear", x.gain(0, 0), x.gain(0, 1), 0, 1);
    }

    private static void gainRefused() {
        Sentence.of(19, "BAD: it is a BAR, too");
        for (State state : State.values()) {
            int last = state.pairs() - 1;
            state.refusedLong("gain(k, 0)", State.beyond(0, last), (x, k) -> x.gain(k, 0), BAD);
            state.refusedLong("gain(k, 1)", State.beyond(0, last), (x, k) -> x.gain(k, 1), BAD);
        }
        List<Integer> pairs = List.of(0, 1, 2, 3, 4, 5, 6, 7, 8, 9);
        State.FULL.refusedLong("it is a bar", pairs, (x, k) -> x.gain(k, 0), BAD);
        State.SOME.refusedLong("it is a bar", List.of(1, 2), (x, k) -> x.gain(k, 1), BAD);
        State.SOME.refusedLong("gain(0, what)", State.beyond(0, 1), (x, what) -> x.gain(0, what), BAD);
        State.UNBORNE.refusedLong("it is a bar: ahead of NOT", x -> x.gain(0, 0), BAD);
        State.UNBORNE.refusedLong("gain(4, what): ahead of NOT", State.beyond(0, 1), (x, what) -> x.gain(4, what), BAD);
        Sentence.of(19, "NOT: UNBORNE as it is");
        State.UNBORNE.refusedLong("gain(4, what)", List.of(0, 1), (x, what) -> x.gain(4, what), NOT);
        LeastFrames x = State.SOME.make();
        x.bar(2);
        due("though not with it", x.gain(2, 0), State.asLong(NOT));
    }

    private static void grow() {
        Sentence.of(20, "BARS GROW: how many came");
        due("no points", new LeastFrames().grow(), 0);
        due("one point", State.ONE.make().grow(), 0);
        due("no pair saves", State.SOME.make().grow(), 0);
        due("all are bars", State.FULL.make().grow(), 0);
        LeastFrames x = line();
        x.bar(1);
        due("one", x.grow(), 1);
        due("which", bars(x), 3);
        due("the least", x.least(0), 3);
        x = tower(940, 3, 6, 0, 3, 2, 3, 3, 1, 4, 2, 3, 0);
        due("before", x.least(0), 1242);
        due("three", x.grow(), 3);
        due("which", bars(x), 1022);
        due("after", x.least(0), 82);
        due("no more", x.grow(), 0);
        Sentence.of(20, "NOT: UNBORNE");
        State.UNBORNE.refused("grow", LeastFrames::grow, NOT);
        x = State.SOME.make();
        x.bar(2);
        due("though one more would bear them", x.grow(), NOT);
        due("it did not come", bars(x), 2);
    }

    private static void prune() {
        Sentence.of(21, "BARS that are not of FRAME are none any more: how many");
        due("no points", new LeastFrames().prune(), 0);
        due("one point", State.ONE.make().prune(), 0);
        due("all bars are of FRAME", State.SOME.make().prune(), 0);
        LeastFrames x = State.FULL.make();
        due("three of all", x.prune(), 3);
        due("FRAME is left", bars(x), 687);
        due("it bears as before", x.least(0), x.least(1), 116, 1);
        due("none more", x.prune(), 0);
        x = Due.points(0, 0, 1, 0, 2, 0, 3, 0, 4, 0);
        x.all();
        due("nothing to bear: all", x.prune(), 10);
        due("none is left", x.count(1), 0);
        Sentence.of(21, "NOT: UNBORNE");
        State.UNBORNE.refused("prune", LeastFrames::prune, NOT);
    }

    private static void would() {
        Sentence.of(22, "What LEAST were, were the LOAD of a POINT in x (axis = 0), y (1) v: above, below");
        LeastFrames x = State.SOME.make();
        for (int v = -9; v <= 9; v++) {
            Fraction cost = Fraction.of(Math.abs(v) * 41, 3);
            due("a load of " + v, x.would(2, 1, v, 0), x.would(2, 1, v, 1), cost.part(0), cost.part(1));
        }
        due("in x, the greatest", x.would(2, 0, 9, 0), x.would(2, 0, 9, 1), 54, 1);
        due("in x, the least", x.would(2, 0, -9, 0), x.would(2, 0, -9, 1), 118, 1);
        due("as it is", x.would(2, 1, -6, 0), x.would(2, 1, -6, 1), 82, 1);
        due("where it is held", x.would(0, 0, 9, 0), x.would(0, 0, 9, 1), 82, 1);
        for (int way = 0; way < 6; way++) {
            due("the load stays " + way, x.info(way / 2, 3 + way % 2), way == 5 ? -6 : 0);
        }
        State.alike("after would", x, State.SOME.make());
        x = Due.points(0, 0, 4, 4);
        due("nothing to bear", x.would(1, 1, 0, 0), x.would(1, 1, 0, 1), 0, 1);
    }

    private static void wouldRefused() {
        Sentence.of(22, "BAD");
        for (State state : State.values()) {
            int last = state.points - 1;
            state.refusedLong("would(p, 0, 0, 0)", State.beyond(0, last), (x, p) -> x.would(p, 0, 0, 0), BAD);
            state.refusedLong("would(p, 1, 9, 1)", State.beyond(0, last), (x, p) -> x.would(p, 1, 9, 1), BAD);
            if (last >= 0) {
                state.refusedLong("would(last, axis, 1, 0)", State.beyond(0, 1), (x, a) -> x.would(last, a, 1, 0), BAD);
                state.refusedLong("would(last, 0, v, 0)", State.beyond(-9, 9), (x, v) -> x.would(last, 0, v, 0), BAD);
                state.refusedLong("would(0, 1, v, 1)", State.beyond(-9, 9), (x, v) -> x.would(0, 1, v, 1), BAD);
                state.refusedLong("would(0, 0, 1, what)", State.beyond(0, 1), (x, w) -> x.would(0, 0, 1, w), BAD);
            }
        }
    }

    private static void wouldNot() {
        Sentence.of(22, "NOT: UNBORNE then");
        State.UNBORNE.refusedLong("as it is, too", List.of(-9, 0, 9), (x, v) -> x.would(4, 0, v, 0), NOT);
        State.UNBORNE.refusedLong("as it is, too", List.of(-9, 0, 9), (x, v) -> x.would(4, 0, v, 1), NOT);
        LeastFrames x = Due.points(0, 0, 4, 4);
        due("borne as it is, UNBORNE then", x.would(1, 0, 1, 0), State.asLong(NOT));
        x.load(1, 0, 1);
        due("UNBORNE as it is, borne then", x.would(1, 0, 0, 0), x.would(1, 0, 0, 1), 0, 1);
        due("UNBORNE as it is", x.least(0), State.asLong(NOT));
        x.load(1, 0, 0);
        x.hold(0, 3);
        x.load(1, 1, 1);
        x.all();
        due("along the bar", x.would(1, 0, 1, 0), x.would(1, 0, 1, 1), 8, 1);
        due("beside the bar", x.would(1, 0, 2, 1), State.asLong(NOT));
    }
}
