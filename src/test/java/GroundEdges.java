import java.util.List;

/** Boundary cases of promises 1 to 10: points, bars, loads. */
final class GroundEdges {
    private static final int BAD = LeastFrames.BAD, NOT = LeastFrames.NOT, NONE = LeastFrames.NONE;
    private static final int LEAST_INT = State.LEAST_INT;

    private GroundEdges() { }

    static void run() {
        newObject();
        newSheets();
        point();
        pointBad();
        pointNot();
        pointFull();
        back();
        backNot();
        hold();
        holdBad();
        load();
        loadBad();
        bar();
        barBad();
        all();
        read();
        readStops();
        readLongs();
        readBad();
        info();
        infoBad();
        pair();
        pairBad();
    }

    private static void due(String call, long got, long want) { Sentence.due(call, got, want); }

    private static void newObject() {
        Sentence.of(1, "No POINTS, no BARS, no SHIFTS");
        LeastFrames x = new LeastFrames();
        int[] counts = {0, 0, 0, 0, 0, 1, 0, 2, 0};
        for (int what = 0; what <= 8; what++) {
            due("count(" + what + ")", x.count(what), counts[what]);
        }
        due("info of a point", x.info(0, 0), LEAST_INT);
        due("pair", x.pair(0, 0), BAD);
        due("bar", x.bar(0), BAD);
        due("all", x.all(), 0);
        due("back", x.back(), NOT);
        due("grow", x.grow(), 0);
        due("prune", x.prune(), 0);
        State.FULL.make();
        LeastFrames y = new LeastFrames();
        due("another new one has none of it", y.count(0) + y.count(1), 0);
        due("its first point", y.point(2, 2), 0);
        for (int what = 2; what <= 6; what++) {
            due("info of its first point " + what, y.info(0, what), 0);
        }
    }

    private static void newSheets() {
        Sentence.of(1, "all SHEETS are LOST");
        for (int s = 0; s < 4; s++) {
            LeastFrames x = new LeastFrames();
            due("get", x.get(s, 0), State.asLong(State.NULL));
            due("lose", x.lose(s), State.NULL);
            due("read", x.read(s), State.NULL);
            due("write", x.write(s), State.NULL);
            due("put", x.put(s, 0, 0, 0), State.NULL);
            due("copy", x.copy(s, 0, s, 0, 0), State.NULL);
        }
    }

    private static void point() {
        Sentence.of(2, "A POINT more, neither HELD nor LOADED nor SHIFTED: its number");
        int[] places = {0, 0, 4, 4, 0, 4, 4, 0, 2, 2};
        LeastFrames x = new LeastFrames();
        for (int turn = 0; turn < 2; turn++) {
            for (int p = 0; p < 5; p++) {
                due("its number", x.point(places[2 * p], places[2 * p + 1]), p);
                for (int what = 0; what <= 6; what++) {
                    int told = what < 2 ? places[2 * p + what] : 0;
                    due("turn " + turn + " info(" + p + ", " + what + ")", x.info(p, what), told);
                }
                x.hold(p, 3);
                x.load(p, 0, 9);
                x.load(p, 1, -9);
                x.shift(p, 0, 999);
                x.shift(p, 1, -999);
            }
            x.all();
            for (int p = 4; p >= 0; p--) {
                due("it goes", x.back(), p);
            }
        }
        x = Due.points(0, 0, 4, 0);
        x.hold(0, 3);
        x.load(1, 0, 1);
        due("no bar bears it", x.frame(), NOT);
        x.point(2, 0);
        x.bar(1);
        x.bar(2);
        due("two bars by one more point do", x.frame(), 6);
    }

    private static void pointBad() {
        Sentence.of(2, "BAD");
        for (State state : State.values()) {
            state.refused("point(x, 1)", State.beyond(0, 4), (x, v) -> x.point(v, 1), BAD);
            state.refused("point(1, y)", State.beyond(0, 4), (x, v) -> x.point(1, v), BAD);
        }
        State.FULL.refused("BAD ahead of FULL", x -> x.point(-1, 5), BAD);
    }

    private static void pointNot() {
        Sentence.of(2, "NOT: there is one there");
        for (State state : State.values()) {
            for (int p = 0; p < state.points; p++) {
                int at = p;
                state.refused("a point at that of " + p, x -> x.point(x.info(at, 0), x.info(at, 1)), NOT);
            }
        }
        LeastFrames x = Due.points(1, 3, 2, 2);
        x.back();
        due("where one was", x.point(2, 2), 1);
        due("like in x alone", x.point(1, 2), 2);
        due("like in y alone", x.point(4, 3), 3);
        due("the other way round", x.point(3, 1), 4);
    }

    private static void pointFull() {
        Sentence.of(2, "FULL");
        State.FULL.refused("a sixth", x -> x.point(0, 0), LeastFrames.FULL);
        State.FULL.refused("NOT ahead of FULL", x -> x.point(2, 4), NOT);
        State.FULL.refused("BAD ahead of FULL", x -> x.point(4, 5), BAD);
        LeastFrames x = State.FULL.make();
        x.back();
        due("one is gone", x.point(0, 0), 4);
        due("full again", x.point(0, 1), LeastFrames.FULL);
    }

    private static void back() {
        Sentence.of(3, "The last POINT is gone, with its BARS: how many are left");
        LeastFrames x = State.FULL.make();
        int[] bars = {0, 0, 1, 3, 6, 10};
        for (int left = 4; left >= 0; left--) {
            due("left", x.back(), left);
            due("bars", x.count(1), bars[left]);
            due("the first that is gone", x.info(left, 0), LEAST_INT);
            due("the first pair that is gone", x.pair(bars[left], 0), BAD);
            due("the last one that is left", x.info(left - 1, 0), left == 0 ? LEAST_INT : new int[] {2, 3, 4, 4}[left - 1]);
        }
        for (int n = 1; n <= 5; n++) {
            x.point(n - 1, 0);
            due("bars do not come back", x.count(1), 0);
        }
        x = Due.bracket();
        due("its load is UNBORNE", x.fault(), 5);
        due("its load is UNBORNE", x.frame(), NOT);
        x.back();
        due("its load is gone", x.fault(), NONE);
        due("its load is gone", x.frame(), 0);
    }

    private static void backNot() {
        Sentence.of(3, "NOT: there is none");
        State.EMPTY.refused("back()", LeastFrames::back, NOT);
        LeastFrames x = State.ONE.make();
        due("the only one", x.back(), 0);
        due("then none", x.back(), NOT);
        due("none", x.count(0), 0);
        due("the next one is the first", x.point(1, 1), 0);
    }

    private static void hold() {
        Sentence.of(4, "In what a POINT is HELD: what it was");
        LeastFrames x = Due.points(0, 0, 1, 0, 2, 0, 3, 0, 4, 0);
        for (int p = 0; p < 5; p++) {
            int was = 0;
            for (int bits : new int[] {3, 0, 1, 2, 2, 0, 3}) {
                due("hold(" + p + ", " + bits + ")", x.hold(p, bits), was);
                due("it is", x.info(p, 2), bits);
                was = bits;
            }
            due("no other one is", p == 4 ? 0 : x.info(p + 1, 2), 0);
        }
    }

    private static void holdBad() {
        Sentence.of(4, "BAD");
        for (State state : State.values()) {
            int last = state.points - 1;
            state.refused("hold(p, 0)", State.beyond(0, last), (x, p) -> x.hold(p, 0), BAD);
            if (last >= 0) {
                state.refused("hold(0, bits)", State.beyond(0, 3), (x, bits) -> x.hold(0, bits), BAD);
                state.refused("hold(last, bits)", State.beyond(0, 3), (x, bits) -> x.hold(last, bits), BAD);
            }
        }
    }

    private static void load() {
        Sentence.of(5, "LOAD of a POINT in x (axis = 0), y (1): what it was");
        LeastFrames x = Due.points(0, 0, 1, 0, 2, 0, 3, 0, 4, 0);
        x.hold(1, 3);
        for (int way = 0; way < 10; way++) {
            due("at first", x.load(way / 2, way % 2, 9), 0);
            due("the greatest was taken", x.load(way / 2, way % 2, -9), 9);
            due("the least was taken", x.load(way / 2, way % 2, 0), -9);
            due("0 was taken", x.load(way / 2, way % 2, way - 4), 0);
        }
        for (int way = 0; way < 10; way++) {
            due("each has its own", x.info(way / 2, 3 + way % 2), way - 4);
        }
    }

    private static void loadBad() {
        Sentence.of(5, "BAD: the least int");
        for (State state : State.values()) {
            int last = state.points - 1;
            state.refused("load(p, 0, 1)", State.beyond(0, last), (x, p) -> x.load(p, 0, 1), LEAST_INT);
            state.refused("load(p, 1, 1)", State.beyond(0, last), (x, p) -> x.load(p, 1, 1), LEAST_INT);
            if (last >= 0) {
                state.refused("load(0, axis, 1)", State.beyond(0, 1), (x, a) -> x.load(0, a, 1), LEAST_INT);
                state.refused("load(last, 0, v)", State.beyond(-9, 9), (x, v) -> x.load(last, 0, v), LEAST_INT);
                state.refused("load(last, 1, v)", State.beyond(-9, 9), (x, v) -> x.load(last, 1, v), LEAST_INT);
            }
        }
    }

    private static void bar() {
        Sentence.of(6, "A PAIR becomes a BAR, or is none any more: which are BARS, as bits");
        LeastFrames x = Due.points(0, 0, 1, 0, 2, 0, 3, 0, 4, 0);
        int bits = 0;
        for (int k = 0; k < 10; k++) {
            bits |= 1 << k;
            due("bar(" + k + ")", x.bar(k), bits);
            due("it is", x.pair(k, 3), 1);
        }
        due("all", x.count(1), 10);
        for (int k = 9; k >= 0; k--) {
            bits &= ~(1 << k);
            due("bar(" + k + ") again", x.bar(k), bits);
            due("it is none", x.pair(k, 3), 0);
        }
        due("none", x.count(1), 0);
    }

    private static void barBad() {
        Sentence.of(6, "BAD");
        for (State state : State.values()) {
            state.refused("bar", State.beyond(0, state.pairs() - 1), (x, k) -> x.bar(k), BAD);
        }
    }

    private static void all() {
        Sentence.of(7, "All PAIRS become BARS: how many there are");
        int[] pairs = {0, 0, 1, 3, 6, 10};
        LeastFrames x = new LeastFrames();
        for (int n = 0; n <= 5; n++) {
            due("all of " + n + " points", x.all(), pairs[n]);
            due("bars", x.count(1), pairs[n]);
            due("those that are bars stay so", x.all(), pairs[n]);
            due("bars", x.count(1), pairs[n]);
            x.point(n, 4 - n);
        }
        x.back();
        due("all of one less", x.all(), 6);
        due("no bar beyond", x.count(1), 6);
    }

    private static int numberAt(int i) { return i % 2 == 0 ? i / 2 + 1 : -(i / 2) - 1; }

    /** A SHEET of items 1, -1, 2, -2 and so on, and some points whose loads are all 9. */
    private static LeastFrames numbered(int points, int items) {
        LeastFrames x = Due.points(0, 0, 1, 0, 2, 0, 3, 0, 4, 0);
        while (x.count(0) > points) {
            x.back();
        }
        x.sheet(3, 0, items);
        for (int i = 0; i < items; i++) {
            x.put(3, 0, i, numberAt(i));
        }
        for (int way = 0; way < 2 * points; way++) {
            x.load(way / 2, way % 2, 9);
        }
        return x;
    }

    private static void read() {
        Sentence.of(8, "LOADS of POINTS by a SHEET: in x, in y of POINT 0, of POINT 1, and so on, its items, as long as"
            + " each may be: how many");
        for (int points = 0; points <= 5; points++) {
            for (int items : new int[] {0, 1, 2 * points - 1, 2 * points, 2 * points + 1, 16}) {
                if (items < 0) {
                    continue;
                }
                LeastFrames x = numbered(points, items);
                int taken = Math.min(items, 2 * points);
                due(items + " items, " + points + " points", x.read(3), taken);
                for (int way = 0; way < 2 * points; way++) {
                    int told = way >= taken ? 9 : numberAt(way);
                    due("load of way " + way, x.info(way / 2, 3 + way % 2), told);
                }
                due("no finding", x.count(8), 0);
            }
        }
        LeastFrames x = numbered(5, 40);
        due("40 items, 5 points", x.read(3), 10);
        x.hold(2, 3);
        x.sheet(0, 1, 40);
        due("where it is held, too", x.read(0), 10);
        due("it is read", x.info(2, 4), 0);
        x = Due.bracket();
        x.all();
        x.sheet(0, 0, 6);
        due("the load as it was told", x.least(0), 82);
        due("none", x.read(0), 6);
        due("nothing to bear", x.least(0), 0);
        x.put(0, 0, 5, -3);
        due("another one", x.read(0), 6);
        due("half as much", x.least(0), 41);
    }

    private static void readStops() {
        Sentence.of(8, "its items, as long as each may be: how many");
        for (int wrong : new int[] {10, -10, 19, 256, 65536, 1 << 30, Integer.MAX_VALUE, LEAST_INT}) {
            for (int at = 0; at < 10; at += 3) {
                LeastFrames x = Due.points(0, 0, 1, 0, 2, 0, 3, 0, 4, 0);
                x.sheet(1, 0, 12);
                for (int i = 0; i < 12; i++) {
                    x.put(1, 0, i, i % 2 == 0 ? 9 : -9);
                }
                x.put(1, 0, at, wrong);
                due("item " + at + " is " + wrong, x.read(1), at);
                for (int way = 0; way < 10; way++) {
                    int told = way >= at ? 0 : way % 2 == 0 ? 9 : -9;
                    due("load of way " + way, x.info(way / 2, 3 + way % 2), told);
                }
                due("the item stays", x.get(1, at), wrong);
            }
        }
    }

    private static void readLongs() {
        Sentence.of(8, "LOADS of POINTS by a SHEET");
        LeastFrames x = Due.points(0, 0, 1, 0);
        x.sheet(0, 1, 4);
        x.put(0, 1, 0, 2);
        x.put(0, 1, 1, -2);
        x.put(0, 1, 2, 1);
        due("longs, as long as they may be", x.read(0), 4);
        due("8", x.info(0, 3), 8);
        due("-8", x.info(0, 4), -8);
        due("1", x.info(1, 3), 1);
        // Beyond what may be; the lowest bits of 2048 and 1 << 20, to the third, are all 0.
        for (int wrong : new int[] {3, -3, 2048, -2048, 1 << 20, 2097151, -2097152}) {
            x.put(0, 1, 1, wrong);
            x.load(0, 1, 5);
            due("third power of " + wrong, x.read(0), 1);
            due("the load stays", x.info(0, 4), 5);
        }
    }

    private static void readBad() {
        Sentence.of(8, "BAD");
        for (State state : State.values()) {
            state.refused("read", State.beyond(0, 3), (x, s) -> x.read(s), BAD);
        }
        Sentence.of(8, "NULL");
        State.EMPTY.refused("read", List.of(0, 1, 2, 3), (x, s) -> x.read(s), State.NULL);
        State.SOME.refused("read", List.of(2, 3), (x, s) -> x.read(s), State.NULL);
        State.FULL.refused("read", List.of(3), (x, s) -> x.read(s), State.NULL);
    }

    private static void info() {
        Sentence.of(9, "Of a POINT x (what = 0), y (1), in what it is HELD (2), LOAD in x (3), in y (4), SHIFT in x (5),"
            + " in y (6), these four as they were told, where it is HELD, too");
        LeastFrames x = Due.points(4, 0, 0, 4, 1, 2, 3, 0, 0, 1);
        int[] places = {4, 0, 0, 4, 1, 2, 3, 0, 0, 1};
        for (int p = 0; p < 5; p++) {
            int bits = p % 4;
            x.load(p, 0, p - 9);
            x.load(p, 1, 9 - p);
            x.shift(p, 0, 999 - p);
            x.shift(p, 1, p - 999);
            x.hold(p, bits);
            int[] told = {places[2 * p], places[2 * p + 1], bits, p - 9, 9 - p, 999 - p, p - 999};
            for (int what = 0; what <= 6; what++) {
                due("info(" + p + ", " + what + ")", x.info(p, what), told[what]);
            }
        }
        x.hold(4, 3);
        due("told while it is held", x.load(4, 0, 1), -5);
        due("it is", x.info(4, 3), 1);
        due("told while it is held", x.shift(4, 1, 1), -995);
        due("it is", x.info(4, 6), 1);
    }

    private static void infoBad() {
        Sentence.of(9, "BAD: the least int");
        for (State state : State.values()) {
            int last = state.points - 1;
            for (int what = 0; what <= 6; what++) {
                int w = what;
                state.refused("info(p, " + w + ")", State.beyond(0, last), (x, p) -> x.info(p, w), LEAST_INT);
            }
            if (last >= 0) {
                state.refused("info(last, what)", State.beyond(0, 6), (x, what) -> x.info(last, what), LEAST_INT);
            }
        }
    }

    private static void pair() {
        Sentence.of(10, "Of a PAIR its lesser POINT (what = 0), its greater one (1), QUAD (2), whether it is a BAR"
            + " (3: 1, 0)");
        int[] places = {0, 0, 4, 4, 0, 1, 1, 4, 4, 0};
        LeastFrames x = Due.points(places);
        x.bar(0);
        x.bar(9);
        for (int k = 0; k < 10; k++) {
            int j = k < 1 ? 1 : k < 3 ? 2 : k < 6 ? 3 : 4;
            int i = k - j * (j - 1) / 2;
            int dx = places[2 * j] - places[2 * i], dy = places[2 * j + 1] - places[2 * i + 1];
            due("lesser one of " + k, x.pair(k, 0), i);
            due("greater one of " + k, x.pair(k, 1), j);
            due("quad of " + k, x.pair(k, 2), dx * dx + dy * dy);
            due("whether " + k + " is a bar", x.pair(k, 3), k == 0 || k == 9 ? 1 : 0);
        }
        x.back();
        x.point(4, 3);
        due("quad by another point", x.pair(7, 2), 1);
    }

    private static void pairBad() {
        Sentence.of(10, "BAD");
        for (State state : State.values()) {
            int last = state.pairs() - 1;
            for (int what = 0; what <= 3; what++) {
                int w = what;
                state.refused("pair(k, " + w + ")", State.beyond(0, last), (x, k) -> x.pair(k, w), BAD);
            }
            if (last >= 0) {
                state.refused("pair(0, what)", State.beyond(0, 3), (x, what) -> x.pair(0, what), BAD);
                state.refused("pair(last, what)", State.beyond(0, 3), (x, what) -> x.pair(last, what), BAD);
            }
        }
    }
}
