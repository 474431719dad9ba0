import java.util.List;

/** Boundary cases of promises 28 to 33: sheets. */
final class SheetEdges {
    private static final int BAD = LeastFrames.BAD, NOT = LeastFrames.NOT;
    private static final int NULL = State.NULL, INDEX = State.INDEX, CAST = State.CAST, STORE = State.STORE;
    private static final int SIZE = State.SIZE, OVER = State.OVER, LEAST_INT = State.LEAST_INT;

    private SheetEdges() { }

    static void run() {
        sheet();
        sheetRefused();
        lose();
        loseRefused();
        putInts();
        putLongs();
        putBad();
        putNull();
        putCast();
        putIndex();
        putOver();
        get();
        getRefused();
        copy();
        copyWithin();
        copyBad();
        copyNull();
        copyStore();
        copyIndex();
        copyIndexOfNone();
        write();
        writeBits();
        writeRefused();
    }

    private static void due(String call, long got, long want) { Sentence.due(call, got, want); }

    private static long long_(int refusal) { return State.asLong(refusal); }

    private static void sheet() {
        Sentence.of(28, "A SHEET is a new row of a FORM with n items: n");
        LeastFrames x = new LeastFrames();
        for (int s = 0; s <= 3; s++) {
            for (int form = 0; form <= 1; form++) {
                for (int n : new int[] {40, 0, 39, 1, 40}) {
                    due("sheet(" + s + ", " + form + ", " + n + ")", x.sheet(s, form, n), n);
                    if (n > 0) {
                        due("its first item", x.get(s, 0), 0);
                        due("its last item", x.get(s, n - 1), 0);
                        due("its first item is of that FORM", x.put(s, form, 0, 3), 1);
                        due("its last item is of that FORM", x.put(s, form, n - 1, 5), 1);
                    }
                    due("one beyond", x.get(s, n), long_(INDEX));
                }
            }
        }
        x.sheet(0, 0, 40);
        for (int i = 0; i < 40; i++) {
            x.put(0, 0, i, i + 1);
        }
        due("a new one", x.sheet(0, 0, 40), 40);
        for (int i = 0; i < 40; i++) {
            due("all its items are 0", x.get(0, i), 0);
        }
        due("another one stays", x.get(1, 39), 125);
    }

    private static void sheetRefused() {
        Sentence.of(28, "BAD: SHEET, FORM, above 40");
        for (State state : State.values()) {
            state.refused("sheet(s, 0, 1)", State.beyond(0, 3), (x, s) -> x.sheet(s, 0, 1), BAD);
            state.refused("sheet(0, form, 1)", State.beyond(0, 1), (x, form) -> x.sheet(0, form, 1), BAD);
            state.refused("sheet(0, 0, n)", State.above(40), (x, n) -> x.sheet(0, 0, n), BAD);
            state.refused("sheet(3, 1, n)", State.above(40), (x, n) -> x.sheet(3, 1, n), BAD);
        }
        State.FULL.refused("SHEET ahead of SIZE", x -> x.sheet(4, 0, -1), BAD);
        State.FULL.refused("FORM ahead of SIZE", x -> x.sheet(0, -1, -1), BAD);
        Sentence.of(28, "SIZE");
        for (State state : State.values()) {
            state.refused("sheet(0, 0, n)", State.below(0), (x, n) -> x.sheet(0, 0, n), SIZE);
            state.refused("sheet(3, 1, n)", State.below(0), (x, n) -> x.sheet(3, 1, n), SIZE);
        }
    }

    private static void lose() {
        Sentence.of(29, "It is LOST: how many items it had");
        LeastFrames x = State.FULL.make();
        due("40", x.lose(1), 40);
        due("0", x.lose(2), 0);
        due("LOST", x.get(1, 0), long_(NULL));
        due("LOST", x.lose(2), NULL);
        due("another stays", x.get(0, 39), 19);
        due("40", x.lose(0), 40);
        x.sheet(3, 0, 1);
        due("1", x.lose(3), 1);
        x.sheet(3, 0, 2);
        due("nothing is kept of it", x.get(3, 0), 0);
    }

    private static void loseRefused() {
        Sentence.of(29, "BAD");
        for (State state : State.values()) {
            state.refused("lose", State.beyond(0, 3), (x, s) -> x.lose(s), BAD);
        }
        Sentence.of(29, "NULL");
        State.EMPTY.refused("lose", List.of(0, 1, 2, 3), (x, s) -> x.lose(s), NULL);
        State.ONE.refused("lose", List.of(1, 2, 3), (x, s) -> x.lose(s), NULL);
        State.FULL.refused("lose", List.of(3), (x, s) -> x.lose(s), NULL);
    }

    private static void putInts() {
        Sentence.of(30, "Item i, treated as of a FORM, becomes v");
        LeastFrames x = new LeastFrames();
        x.sheet(3, 0, 40);
        int[] values = {LEAST_INT, Integer.MAX_VALUE, -1, 0, 1, 2097152, -2097153, 32768, -32769, 128, -129};
        for (int at : new int[] {0, 39}) {
            for (int v : values) {
                due("put of " + v, x.put(3, 0, at, v), 1);
                due("it is that", x.get(3, at), v);
            }
        }
        for (int i = 1; i < 39; i++) {
            due("no other one is", x.get(3, i), 0);
        }
        due("no finding", x.count(8), 0);
    }

    private static void putLongs() {
        Sentence.of(30, "of longs v times v times v: 1");
        LeastFrames x = new LeastFrames();
        x.sheet(2, 1, 40);
        // 1290 to the third is the last that is an int; -2097152 is the least whose third is a long.
        int[] values = {0, 1, -1, 2, -2, 1290, 1291, -1290, -1291, 46341, -46341, 2097151, -2097151, -2097152};
        long[] thirds = {0, 1, -1, 8, -8, 2146689000L, 2151685171L, -2146689000L, -2151685171L, 99516754429821L,
            -99516754429821L, 9223358842721533951L, -9223358842721533951L, Long.MIN_VALUE};
        for (int at : new int[] {0, 39}) {
            for (int i = 0; i < values.length; i++) {
                due("put of " + values[i], x.put(2, 1, at, values[i]), 1);
                due("its third power", x.get(2, at), thirds[i]);
            }
        }
        for (int i = 1; i < 39; i++) {
            due("no other one is", x.get(2, i), 0);
        }
        due("no finding", x.count(8), 0);
    }

    private static void putBad() {
        Sentence.of(30, "BAD");
        for (State state : State.values()) {
            state.refused("put(s, 0, 0, 1)", State.beyond(0, 3), (x, s) -> x.put(s, 0, 0, 1), BAD);
            state.refused("put(s, 1, 0, 1)", State.beyond(0, 3), (x, s) -> x.put(s, 1, 0, 1), BAD);
            state.refused("put(0, form, 0, 1)", State.beyond(0, 1), (x, form) -> x.put(0, form, 0, 1), BAD);
        }
        State.FULL.refused("SHEET ahead of INDEX", x -> x.put(4, 0, -1, 1), BAD);
        State.FULL.refused("FORM ahead of NULL", x -> x.put(3, 2, 0, 1), BAD);
        State.FULL.refused("FORM ahead of CAST, INDEX, OVER", x -> x.put(1, -1, 40, 2097152), BAD);
    }

    private static void putNull() {
        Sentence.of(30, "NULL");
        State.EMPTY.refused("ints", List.of(0, 1, 2, 3), (x, s) -> x.put(s, 0, 0, 1), NULL);
        State.EMPTY.refused("longs", List.of(0, 1, 2, 3), (x, s) -> x.put(s, 1, 0, 1), NULL);
        State.FULL.refused("ahead of INDEX", x -> x.put(3, 0, -1, 1), NULL);
        State.FULL.refused("ahead of OVER", x -> x.put(3, 1, 0, 2097152), NULL);
        LeastFrames x = State.FULL.make();
        x.lose(0);
        due("ahead of CAST: what it was does not count", x.put(0, 1, 0, 1), NULL);
        due("nor for what it was", x.put(0, 0, 0, 1), NULL);
    }

    private static void putCast() {
        Sentence.of(30, "CAST");
        State.FULL.refused("ints as longs", x -> x.put(0, 1, 0, 1), CAST);
        State.FULL.refused("longs as ints", x -> x.put(1, 0, 39, 1), CAST);
        State.FULL.refused("ahead of INDEX", List.of(-1, 40, LEAST_INT), (x, i) -> x.put(0, 1, i, 1), CAST);
        State.FULL.refused("of no items, ahead of INDEX", x -> x.put(2, 1, 0, 1), CAST);
        State.FULL.refused("ahead of OVER", x -> x.put(0, 1, 0, 2097152), CAST);
        LeastFrames x = State.FULL.make();
        x.sheet(0, 1, 40);
        due("of its new FORM", x.put(0, 1, 0, 1), 1);
        due("no more of its old one", x.put(0, 0, 0, 1), CAST);
    }

    private static void putIndex() {
        Sentence.of(30, "INDEX");
        State.FULL.refused("ints", State.beyond(0, 39), (x, i) -> x.put(0, 0, i, 1), INDEX);
        State.FULL.refused("longs", State.beyond(0, 39), (x, i) -> x.put(1, 1, i, 1), INDEX);
        State.FULL.refused("of no items", State.beyond(0, -1), (x, i) -> x.put(2, 0, i, 1), INDEX);
        State.SOME.refused("of one item", State.beyond(0, 0), (x, i) -> x.put(0, 0, i, 1), INDEX);
        State.SOME.refused("of two items", State.beyond(0, 1), (x, i) -> x.put(1, 1, i, 1), INDEX);
        State.FULL.refused("ahead of OVER", x -> x.put(1, 1, 40, 2097152), INDEX);
        LeastFrames x = State.FULL.make();
        x.sheet(0, 0, 39);
        due("it had that one", x.put(0, 0, 39, 1), INDEX);
    }

    private static void putOver() {
        Sentence.of(30, "OVER");
        State.FULL.refused("put", State.beyond(-2097152, 2097151), (x, v) -> x.put(1, 1, 0, v), OVER);
        State.FULL.refused("put", List.of(2097152, -2097153), (x, v) -> x.put(1, 1, 39, v), OVER);
        due("ints are not", State.FULL.make().put(0, 0, 0, 2097152), 1);
    }

    private static void get() {
        Sentence.of(31, "Item i of it");
        LeastFrames x = State.FULL.make();
        for (int i = 0; i < 40; i++) {
            due("of ints " + i, x.get(0, i), i - 20);
            long v = i - 30;
            due("of longs " + i, x.get(1, i), v * v * v);
        }
        x.put(0, 0, 0, LEAST_INT);
        x.put(1, 1, 39, -2097152);
        due("the least int", x.get(0, 0), LEAST_INT);
        due("the least long, which is no refusal", x.get(1, 39), Long.MIN_VALUE);
        due("the finding is an earlier one", x.count(8), 6);
    }

    private static void getRefused() {
        Sentence.of(31, "BAD");
        for (State state : State.values()) {
            state.refusedLong("get(s, 0)", State.beyond(0, 3), (x, s) -> x.get(s, 0), BAD);
            state.refusedLong("get(s, -1): ahead of INDEX", State.beyond(0, 3), (x, s) -> x.get(s, -1), BAD);
        }
        Sentence.of(31, "NULL");
        State.EMPTY.refusedLong("get(s, 0)", List.of(0, 1, 2, 3), (x, s) -> x.get(s, 0), NULL);
        State.FULL.refusedLong("ahead of INDEX", State.beyond(0, 39), (x, i) -> x.get(3, i), NULL);
        Sentence.of(31, "INDEX");
        State.FULL.refusedLong("ints", State.beyond(0, 39), (x, i) -> x.get(0, i), INDEX);
        State.FULL.refusedLong("longs", State.beyond(0, 39), (x, i) -> x.get(1, i), INDEX);
        State.FULL.refusedLong("of no items", State.beyond(0, -1), (x, i) -> x.get(2, i), INDEX);
        State.SOME.refusedLong("of one item", State.beyond(0, 0), (x, i) -> x.get(0, i), INDEX);
        State.SOME.refusedLong("of two items", State.beyond(0, 1), (x, i) -> x.get(1, i), INDEX);
    }

    private static void copy() {
        Sentence.of(32, "n items of SHEET s, from i on, come to SHEET t (perhaps s, as they were), from j on: 1");
        for (int form = 0; form <= 1; form++) {
            int[][] cases = {{0, 0, 40}, {0, 39, 1}, {39, 0, 1}, {39, 39, 1}, {1, 0, 39}, {0, 1, 39}, {3, 7, 11}};
            for (int[] c : cases) {
                LeastFrames x = State.FULL.make();
                x.sheet(3, form, 40);
                due("copy of " + c[2] + " from " + c[0], x.copy(form, c[0], 3, c[1], c[2]), 1);
                for (int i = 0; i < 40; i++) {
                    boolean came = i >= c[1] && i < c[1] + c[2];
                    due("item " + i, x.get(3, i), came ? x.get(form, i - c[1] + c[0]) : 0);
                    due("where it came from", x.get(form, i), State.FULL.make().get(form, i));
                }
            }
        }
    }

    private static void copyWithin() {
        Sentence.of(32, "come to SHEET t (perhaps s, as they were)");
        for (int form = 0; form <= 1; form++) {
            int[][] cases = {{0, 1, 39}, {1, 0, 39}, {0, 0, 40}, {5, 8, 10}, {8, 5, 10}, {0, 20, 20}, {20, 0, 20}};
            for (int[] c : cases) {
                LeastFrames x = State.FULL.make(), was = State.FULL.make();
                due("copy of " + c[2] + " from " + c[0] + " to " + c[1], x.copy(form, c[0], form, c[1], c[2]), 1);
                for (int i = 0; i < 40; i++) {
                    boolean came = i >= c[1] && i < c[1] + c[2];
                    due("item " + i, x.get(form, i), was.get(form, came ? i - c[1] + c[0] : i));
                }
            }
        }
    }

    private static void copyBad() {
        Sentence.of(32, "BAD: the SHEETS");
        for (State state : State.values()) {
            state.refused("copy(s, 0, 0, 0, 0)", State.beyond(0, 3), (x, s) -> x.copy(s, 0, 0, 0, 0), BAD);
            state.refused("copy(0, 0, t, 0, 0)", State.beyond(0, 3), (x, t) -> x.copy(0, 0, t, 0, 0), BAD);
        }
        State.FULL.refused("s ahead of NULL", x -> x.copy(4, 0, 3, 0, 0), BAD);
        State.FULL.refused("t ahead of NULL", x -> x.copy(3, 0, 4, 0, 0), BAD);
        State.FULL.refused("s ahead of INDEX", x -> x.copy(-1, -1, 0, 0, 0), BAD);
        State.FULL.refused("t ahead of INDEX", x -> x.copy(0, 41, -1, 0, -1), BAD);
    }

    private static void copyNull() {
        Sentence.of(32, "NULL: s, t");
        State.EMPTY.refused("both", x -> x.copy(0, 0, 1, 0, 0), NULL);
        State.FULL.refused("s", List.of(0, 1, 2), (x, t) -> x.copy(3, 0, t, 0, 0), NULL);
        State.FULL.refused("t", List.of(0, 1, 2), (x, s) -> x.copy(s, 0, 3, 0, 0), NULL);
        State.FULL.refused("the same", x -> x.copy(3, 0, 3, 0, 0), NULL);
        State.FULL.refused("ahead of INDEX", x -> x.copy(3, -1, 0, 41, -1), NULL);
        LeastFrames x = State.FULL.make();
        x.lose(1);
        due("ahead of STORE, whatever it was: t", x.copy(0, 0, 1, 0, 1), NULL);
        due("ahead of STORE, whatever it was: s", x.copy(1, 0, 0, 0, 1), NULL);
    }

    private static void copyStore() {
        Sentence.of(32, "STORE");
        State.FULL.refused("ints to longs", x -> x.copy(0, 0, 1, 0, 1), STORE);
        State.FULL.refused("longs to ints", x -> x.copy(1, 0, 0, 0, 1), STORE);
        State.FULL.refused("all of them", x -> x.copy(0, 0, 1, 0, 40), STORE);
        State.FULL.refused("none of them", x -> x.copy(1, 0, 0, 0, 0), STORE);
        State.FULL.refused("i ahead of INDEX", List.of(-1, 41), (x, i) -> x.copy(0, i, 1, 0, 1), STORE);
        State.FULL.refused("j ahead of INDEX", List.of(-1, 41), (x, j) -> x.copy(0, 0, 1, j, 1), STORE);
        State.FULL.refused("n ahead of INDEX", List.of(-1, 41), (x, n) -> x.copy(0, 0, 1, 0, n), STORE);
    }

    private static void copyIndex() {
        Sentence.of(32, "INDEX: i, j or n below 0, not so many there");
        for (int form = 0; form <= 1; form++) {
            int f = form;
            State.FULL.refused("i", State.beyond(0, 39), (x, i) -> x.copy(f, i, f, 0, 1), INDEX);
            State.FULL.refused("j", State.beyond(0, 39), (x, j) -> x.copy(f, 0, f, j, 1), INDEX);
            State.FULL.refused("n", State.beyond(0, 40), (x, n) -> x.copy(f, 0, f, 0, n), INDEX);
            State.FULL.refused("n from 1 on", State.beyond(0, 39), (x, n) -> x.copy(f, 1, f, 0, n), INDEX);
            State.FULL.refused("n to 1 on", State.beyond(0, 39), (x, n) -> x.copy(f, 0, f, 1, n), INDEX);
            State.FULL.refused("n from the last on", State.beyond(0, 1), (x, n) -> x.copy(f, 39, f, 0, n), INDEX);
            State.FULL.refused("n to the last on", State.beyond(0, 1), (x, n) -> x.copy(f, 0, f, 39, n), INDEX);
        }
        State.FULL.refused("to no items", x -> x.copy(0, 0, 2, 0, 1), INDEX);
        State.FULL.refused("from no items", x -> x.copy(2, 0, 0, 0, 1), INDEX);
        State.FULL.refused("i and n together wrap round", x -> x.copy(0, Integer.MAX_VALUE, 0, 0, 1), INDEX);
        State.FULL.refused("i and n together wrap round", x -> x.copy(0, 1, 0, 0, Integer.MAX_VALUE), INDEX);
        State.FULL.refused("j and n together wrap round", x -> x.copy(0, 0, 0, 2, Integer.MAX_VALUE - 1), INDEX);
        State.FULL.refused("below 0, but 0 together", x -> x.copy(0, 1, 0, 1, -1), INDEX);
        State.FULL.refused("below 0, but 1 together", x -> x.copy(0, -1, 0, 0, 2), INDEX);
    }

    private static void copyIndexOfNone() {
        Sentence.of(32, "(of n 0, too: i or j above the size)");
        State.FULL.refused("i", State.beyond(0, 40), (x, i) -> x.copy(0, i, 0, 0, 0), INDEX);
        State.FULL.refused("j", State.beyond(0, 40), (x, j) -> x.copy(0, 0, 0, j, 0), INDEX);
        State.FULL.refused("i of no items", State.beyond(0, 0), (x, i) -> x.copy(2, i, 0, 0, 0), INDEX);
        State.FULL.refused("j of no items", State.beyond(0, 0), (x, j) -> x.copy(0, 0, 2, j, 0), INDEX);
        for (int i : new int[] {0, 20, 40}) {
            LeastFrames x = State.FULL.make();
            due("none from " + i, x.copy(0, i, 0, 40 - i, 0), 1);
            due("none to no items", x.copy(0, i, 2, 0, 0), 1);
            due("none from no items", x.copy(2, 0, 0, i, 0), 1);
            State.alike("after none came", x, State.FULL.make());
        }
        due("none of no items", State.FULL.make().copy(2, 0, 2, 0, 0), 1);
    }

    private static void write() {
        Sentence.of(33, "PULLS by FRAME come to a SHEET: of PAIR k what is above to item 2 k, what is below to item 2 k"
            + " and 1");
        for (int form = 0; form <= 1; form++) {
            for (int n : new int[] {0, 1, 2, 3, 19, 20, 21, 40}) {
                LeastFrames x = LeastEdges.farPull();
                x.sheet(0, form, n);
                for (int i = 0; i < n; i++) {
                    x.put(0, form, i, 2);
                }
                due("to " + n + " items", x.write(0), Math.min(n, 20));
                for (int i = 0; i < n; i++) {
                    int[] parts = i % 2 == 0 ? LeastEdges.FAR_ABOVE : LeastEdges.FAR_BELOW;
                    due("item " + i + " of " + n, x.get(0, i), i < 20 ? parts[i / 2] : form == 0 ? 2 : 8);
                }
                due("no finding", x.count(8), 0);
            }
        }
        int[] items = {0, 0, 2, 6, 12, 20};
        LeastFrames x = new LeastFrames();
        x.sheet(3, 1, 40);
        for (int points = 0; points <= 5; points++) {
            due("of " + points + " points", x.write(3), items[points]);
            for (int i = 0; i < 20; i++) {
                due("0 by 1, and beyond nothing", x.get(3, i), i < items[points] ? i % 2 : 0);
            }
            x.point(points, 0);
        }
    }

    private static void writeBits() {
        Sentence.of(33, "(of ints their lowest bits, with their sign)");
        LeastFrames x = LeastEdges.farPull();
        x.sheet(0, 0, 20);
        x.sheet(1, 1, 20);
        x.write(0);
        x.write(1);
        due("below 0, beyond 16 bits", x.get(0, 10), -57663);
        for (int i = 0; i < 20; i++) {
            due("item " + i, x.get(0, i), (int) x.get(1, i));
        }
    }

    private static void writeRefused() {
        Sentence.of(33, "BAD");
        for (State state : State.values()) {
            state.refused("write", State.beyond(0, 3), (x, s) -> x.write(s), BAD);
        }
        Sentence.of(33, "NULL");
        State.EMPTY.refused("write", List.of(0, 1, 2, 3), (x, s) -> x.write(s), NULL);
        State.FULL.refused("write", List.of(3), (x, s) -> x.write(s), NULL);
        State.UNBORNE.refused("ahead of NOT", List.of(1, 3), (x, s) -> x.write(s), NULL);
        Sentence.of(33, "NOT: UNBORNE");
        State.UNBORNE.refused("write", List.of(0, 2), (x, s) -> x.write(s), NOT);
        LeastFrames x = State.UNBORNE.make();
        x.sheet(1, 0, 0);
        due("even to no items", x.write(1), NOT);
    }
}
