/** Promises 28 to 35: sheets, counts and the digest. */
public final class SheetPromisesTest {
    public static void main(String[] args) {
        sheet();
        lose();
        put();
        putLongs();
        get();
        copy();
        copyEdges();
        write();
        writeEdges();
        count();
        findings();
        digest();
        Due.end();
    }

    private static final int NULL = -11, INDEX = -12, CAST = -13, STORE = -14, SIZE = -15, OVER = -16;

    private static void due(String call, long got, long want) { Due.due(call, got, want); }

    private static void sheet() {
        LeastFrames x = new LeastFrames();
        due("28 ints", x.sheet(0, 0, 40), 40);
        due("28 longs", x.sheet(3, 1, 1), 1);
        due("28 none", x.sheet(1, 1, 0), 0);
        due("28 all are 0", x.get(0, 39), 0);
        due("28 no more", x.get(0, 40), Due.INDEX);
        x.put(0, 0, 0, 7);
        due("28 a new row", x.sheet(0, 0, 2), 2);
        due("28 all are 0 again", x.get(0, 0), 0);
        due("28 fewer", x.get(0, 2), Due.INDEX);
        due("28 of another form", x.sheet(0, 1, 2), 2);
        due("28 it is", x.put(0, 0, 0, 1), CAST);
        due("28 above 40", x.sheet(2, 0, 41), LeastFrames.BAD);
        due("28 sheet", x.sheet(4, 0, 1), LeastFrames.BAD);
        due("28 sheet", x.sheet(-1, 0, 1), LeastFrames.BAD);
        due("28 form", x.sheet(2, 2, 1), LeastFrames.BAD);
        due("28 form", x.sheet(2, -1, 1), LeastFrames.BAD);
        due("28 size", x.sheet(2, 0, -1), SIZE);
        due("28 the finding", x.count(8), 5);
        due("28 size, the least", x.sheet(2, 0, Integer.MIN_VALUE), SIZE);
        due("28 BAD ahead of SIZE", x.sheet(4, 0, -1), LeastFrames.BAD);
        due("28 BAD ahead of SIZE", x.sheet(2, 2, -1), LeastFrames.BAD);
        due("28 refusals change nothing", x.get(2, 0), Due.NULL);
        x.put(3, 1, 0, 2);
        x.sheet(3, 0, -1);
        x.sheet(3, 0, 41);
        due("28 nor a row that there is", x.get(3, 0), 8);
    }

    private static void lose() {
        LeastFrames x = new LeastFrames();
        due("29 LOST", x.lose(1), NULL);
        due("29 the finding", x.count(8), 1);
        x.sheet(1, 0, 17);
        due("29 how many it had", x.lose(1), 17);
        due("29 LOST", x.lose(1), NULL);
        due("29 it is", x.get(1, 0), Due.NULL);
        due("29 no such sheet", x.lose(4), LeastFrames.BAD);
        due("29 no such sheet", x.lose(-1), LeastFrames.BAD);
        x.sheet(1, 0, 0);
        due("29 of no items", x.lose(1), 0);
    }

    private static void put() {
        LeastFrames x = new LeastFrames();
        due("30 LOST", x.put(2, 0, 0, 1), NULL);
        due("30 the finding", x.count(8), 1);
        x.sheet(2, 0, 3);
        due("30 ints", x.put(2, 0, 0, Integer.MIN_VALUE), 1);
        due("30 ints", x.put(2, 0, 2, Integer.MAX_VALUE), 1);
        due("30 it stands there", x.get(2, 0), Integer.MIN_VALUE);
        due("30 and there", x.get(2, 2), Integer.MAX_VALUE);
        due("30 nowhere else", x.get(2, 1), 0);
        due("30 index above", x.put(2, 0, 3, 1), INDEX);
        due("30 the finding", x.count(8), 2);
        due("30 index below", x.put(2, 0, -1, 1), INDEX);
        due("30 cast", x.put(2, 1, 0, 1), CAST);
        due("30 the finding", x.count(8), 3);
        due("30 CAST ahead of INDEX", x.put(2, 1, 3, 1), CAST);
        due("30 CAST ahead of OVER", x.put(2, 1, 0, 2097152), CAST);
        due("30 NULL ahead of INDEX", x.put(1, 1, -1, 1), NULL);
        due("30 form", x.put(2, 2, 0, 1), LeastFrames.BAD);
        due("30 form", x.put(2, -1, 0, 1), LeastFrames.BAD);
        due("30 BAD ahead of NULL", x.put(1, 2, 0, 1), LeastFrames.BAD);
        due("30 sheet", x.put(4, 0, 0, 1), LeastFrames.BAD);
        due("30 sheet", x.put(-1, 0, 0, 1), LeastFrames.BAD);
        due("30 refusals change nothing", x.get(2, 0), Integer.MIN_VALUE);
    }

    private static void putLongs() {
        LeastFrames x = new LeastFrames();
        x.sheet(0, 1, 2);
        due("30 longs", x.put(0, 1, 1, -3), 1);
        due("30 times itself twice", x.get(0, 1), -27);
        due("30 the greatest", x.put(0, 1, 1, 2097151), 1);
        due("30 stands there", x.get(0, 1), 9223358842721533951L);
        due("30 the least", x.put(0, 1, 0, -2097152), 1);
        due("30 stands there", x.get(0, 0), Long.MIN_VALUE);
        due("30 over", x.put(0, 1, 0, 2097152), OVER);
        due("30 the finding", x.count(8), 6);
        due("30 over below", x.put(0, 1, 0, -2097153), OVER);
        due("30 over by far", x.put(0, 1, 0, Integer.MAX_VALUE), OVER);
        due("30 over by far below", x.put(0, 1, 0, Integer.MIN_VALUE), OVER);
        due("30 INDEX ahead of OVER", x.put(0, 1, 2, 2097152), INDEX);
        due("30 it stays", x.get(0, 0), Long.MIN_VALUE);
        due("30 cast of ints to longs", x.put(0, 0, 0, 1), CAST);
        x.sheet(1, 0, 1);
        due("30 ints are not over", x.put(1, 0, 0, 2097152), 1);
    }

    private static void get() {
        LeastFrames x = new LeastFrames();
        due("31 LOST", x.get(0, 0), Due.NULL);
        due("31 the finding", x.count(8), 1);
        x.sheet(0, 0, 2);
        x.put(0, 0, 1, -5);
        due("31 an item", x.get(0, 1), -5);
        due("31 below", x.get(0, -1), Due.INDEX);
        due("31 the finding", x.count(8), 2);
        due("31 above", x.get(0, 2), Due.INDEX);
        due("31 NULL ahead of INDEX", x.get(1, -1), Due.NULL);
        due("31 sheet", x.get(4, 0), Due.BAD);
        due("31 sheet", x.get(-1, 0), Due.BAD);
        due("31 BAD is no finding", x.count(8), 1);
    }

    /** A sheet of ints 1, 2, 3 and so on. */
    private static LeastFrames counted(int s, int n) {
        LeastFrames x = new LeastFrames();
        x.sheet(s, 0, n);
        for (int i = 0; i < n; i++) {
            x.put(s, 0, i, i + 1);
        }
        return x;
    }

    private static void items(String call, LeastFrames x, int s, int... want) {
        for (int i = 0; i < want.length; i++) {
            due(call + " item " + i, x.get(s, i), want[i]);
        }
    }

    private static void copy() {
        LeastFrames x = counted(0, 5);
        x.sheet(1, 0, 4);
        due("32 to another", x.copy(0, 2, 1, 1, 3), 1);
        items("32", x, 1, 0, 3, 4, 5);
        items("32 from stays", x, 0, 1, 2, 3, 4, 5);
        due("32 up", x.copy(0, 0, 0, 1, 4), 1);
        items("32 as they were", x, 0, 1, 1, 2, 3, 4);
        due("32 down", x.copy(0, 1, 0, 0, 4), 1);
        items("32 as they were", x, 0, 1, 2, 3, 4, 4);
        due("32 all", x.copy(0, 0, 0, 0, 5), 1);
        due("32 too many there", x.copy(0, 2, 1, 1, 4), INDEX);
        due("32 too many to come", x.copy(0, 1, 1, 2, 3), INDEX);
        due("32 the finding", x.count(8), 2);
        items("32 nothing changed", x, 1, 0, 3, 4, 5);
        due("32 n below 0", x.copy(0, 1, 1, 1, -1), INDEX);
        due("32 i below 0", x.copy(0, -1, 1, 1, 1), INDEX);
        due("32 j below 0", x.copy(0, 1, 1, -1, 1), INDEX);
        due("32 as far as ints go", x.copy(0, 1, 1, 1, Integer.MAX_VALUE), INDEX);
        due("32 as far as ints go", x.copy(0, Integer.MAX_VALUE, 1, 1, 1), INDEX);
        due("32 as far as ints go", x.copy(0, 1, 1, Integer.MAX_VALUE, 1), INDEX);
    }

    private static void copyEdges() {
        LeastFrames x = counted(0, 5);
        x.sheet(1, 0, 4);
        due("32 none", x.copy(0, 1, 1, 1, 0), 1);
        due("32 none from behind the last", x.copy(0, 5, 1, 0, 0), 1);
        due("32 none to behind the last", x.copy(0, 0, 1, 4, 0), 1);
        due("32 none from beyond", x.copy(0, 6, 1, 0, 0), INDEX);
        due("32 none to beyond", x.copy(0, 0, 1, 5, 0), INDEX);
        x.sheet(2, 1, 5);
        due("32 ints to longs", x.copy(0, 0, 2, 0, 1), STORE);
        due("32 the finding", x.count(8), 4);
        due("32 longs to ints", x.copy(2, 0, 0, 0, 1), STORE);
        due("32 STORE even of none", x.copy(2, 0, 0, 0, 0), STORE);
        due("32 STORE ahead of INDEX", x.copy(0, -1, 2, 0, 1), STORE);
        due("32 from LOST", x.copy(3, 0, 0, 0, 1), NULL);
        due("32 the finding", x.count(8), 1);
        due("32 to LOST", x.copy(0, 0, 3, 0, 1), NULL);
        due("32 NULL ahead of INDEX", x.copy(0, -1, 3, 0, 1), NULL);
        due("32 NULL ahead of STORE", x.copy(2, 0, 3, 0, 1), NULL);
        due("32 sheet s", x.copy(4, 0, 0, 0, 1), LeastFrames.BAD);
        due("32 sheet s", x.copy(-1, 0, 0, 0, 1), LeastFrames.BAD);
        due("32 sheet t", x.copy(0, 0, 4, 0, 1), LeastFrames.BAD);
        due("32 sheet t", x.copy(0, 0, -1, 0, 1), LeastFrames.BAD);
        due("32 BAD ahead of NULL", x.copy(3, 0, 4, 0, 1), LeastFrames.BAD);
        x.sheet(3, 1, 1);
        x.put(2, 1, 4, -4);
        due("32 longs", x.copy(2, 4, 3, 0, 1), 1);
        due("32 longs", x.get(3, 0), -64);
    }

    private static void write() {
        LeastFrames x = Due.bracket();
        due("33 NULL ahead of NOT", x.write(0), NULL);
        x.sheet(0, 0, 8);
        due("33 UNBORNE", x.write(0), LeastFrames.NOT);
        due("33 sheet", x.write(4), LeastFrames.BAD);
        due("33 sheet", x.write(-1), LeastFrames.BAD);
        x.all();
        x.load(2, 1, -5);
        x.put(0, 0, 6, 77);
        due("33 all pairs", x.write(0), 6);
        items("33", x, 0, 0, 1, -5, 3, 5, 3, 77, 0);
        x.sheet(0, 1, 5);
        due("33 as many as there are", x.write(0), 5);
        items("33 longs", x, 0, 0, 1, -5, 3, 5);
        x.sheet(0, 1, 0);
        due("33 none", x.write(0), 0);
        x.bar(2);
        x.sheet(0, 0, 3);
        x.put(0, 0, 1, 9);
        due("33 UNBORNE", x.write(0), LeastFrames.NOT);
        items("33 nothing changed", x, 0, 0, 9, 0);
    }

    private static void writeEdges() {
        LeastFrames x = new LeastFrames();
        x.sheet(3, 0, 4);
        due("33 no points", x.write(3), 0);
        x.point(0, 0);
        due("33 no pairs", x.write(3), 0);
        x.point(1, 0);
        due("33 a pair that is no bar", x.write(3), 2);
        items("33", x, 3, 0, 1, 0, 0);
        LeastFrames y = Due.points(0, 0, 1, 0, 2, 0, 3, 0, 4, 0);
        y.hold(0, 3);
        y.load(4, 0, 9);
        y.load(1, 0, -4);
        y.bar(0);
        y.bar(9);
        y.bar(3);
        y.sheet(1, 0, 40);
        due("33 all of five points", y.write(1), 20);
        items("33", y, 1, -4, 1, 0, 1, 0, 1, 3, 1, 0, 1, 0, 1, 0, 1, 0, 1, 0, 1, 9, 1, 0, 0);
    }

    private static void count() {
        LeastFrames x = Due.points(0, 0, 4, 4, 0, 4, 4, 0);
        x.hold(0, 3);
        x.hold(2, 3);
        x.hold(1, 0);
        x.load(1, 0, 4);
        x.load(1, 1, 4);
        x.load(3, 0, 4);
        x.load(3, 1, -4);
        x.bar(0);
        x.bar(1);
        x.bar(5);
        int[] told = {4, 3, 4, 2, 2, 1, 1, 1, 0};
        for (int what = 0; what <= 8; what++) {
            due("34 count " + what, x.count(what), told[what]);
        }
        due("34 what", x.count(9), LeastFrames.BAD);
        due("34 what", x.count(-1), LeastFrames.BAD);
        x.hold(3, 2);
        due("34 ways", x.count(2), 3);
        x.load(1, 0, 3);
        x.shift(1, 0, 900);
        int[] unborne = {4, 3, 3, -1, -1, 0, -1, 0};
        for (int what = 0; what < 8; what++) {
            due("34 UNBORNE count " + what, x.count(what), unborne[what]);
        }
        // Two bars of like volume: one of them is of the frame, none is needed.
        x = Due.points(2, 2, 0, 0, 4, 4);
        x.hold(1, 3);
        x.hold(2, 3);
        x.load(0, 0, 3);
        x.load(0, 1, 3);
        x.all();
        due("34 bars of frame", x.count(3), 1);
        due("34 needed", x.count(4), 0);
        x.shift(0, 0, 24);
        x.shift(0, 1, 24);
        due("34 proves", x.count(7), 2);
    }

    private static void findings() {
        LeastFrames x = new LeastFrames();
        due("34 before any", x.count(8), 0);
        x.lose(0);
        due("34 NULL", x.count(8), 1);
        x.sheet(0, 0, -1);
        due("34 SIZE", x.count(8), 5);
        x.sheet(0, 0, 1);
        due("34 what is done is no finding", x.count(8), 5);
        x.get(0, 1);
        due("34 INDEX", x.count(8), 2);
        x.put(0, 1, 0, 0);
        due("34 CAST", x.count(8), 3);
        x.sheet(1, 1, 1);
        x.copy(0, 0, 1, 0, 1);
        due("34 STORE", x.count(8), 4);
        x.put(1, 1, 0, 3000000);
        due("34 OVER", x.count(8), 6);
        x.put(4, 1, 0, 0);
        x.back();
        x.point(9, 9);
        due("34 other refusals are none", x.count(8), 6);
        x.read(3);
        due("34 NULL by read", x.count(8), 1);
        x.get(0, 5);
        x.write(3);
        due("34 NULL by write", x.count(8), 1);
        due("34 digest does not look at it", x.digest(), new LeastFrames().digest());
    }

    private static long fold(long h, long... told) {
        for (long v : told) {
            h = 31 * h + v;
        }
        return h;
    }

    /** The digest as the document tells it, by the other calls. */
    private static long asTold(LeastFrames x) {
        long h = 17;
        for (int what = 0; what <= 7; what++) {
            h = fold(h, x.count(what));
        }
        h = fold(h, x.least(0), x.least(1), x.fault(), x.frame(), x.needed(), x.dearest());
        int n = x.count(0);
        for (int p = 0; p < n; p++) {
            for (int what = 0; what <= 6; what++) {
                h = fold(h, x.info(p, what));
            }
        }
        for (int k = 0; k < n * (n - 1) / 2; k++) {
            h = fold(h, x.pair(k, 0), x.pair(k, 1), x.pair(k, 2), x.pair(k, 3));
            h = fold(h, x.pull(k, 0), x.pull(k, 1), x.stretch(k, 0), x.stretch(k, 1));
            boolean bar = x.pair(k, 3) == 1;
            h = bar ? fold(h, x.without(k, 0), x.without(k, 1), x.why(k)) : fold(h, x.gain(k, 0), x.gain(k, 1));
        }
        h = fold(h, x.work(0), x.work(1));
        for (int c = 0; c < x.count(6); c++) {
            for (int what = 0; what <= 5; what++) {
                h = fold(h, x.cross(c, what));
            }
        }
        return h;
    }

    private static void digest() {
        LeastFrames x = new LeastFrames();
        // 17, then counts 0 0 0 0 0 1 0 2, least 0 1, fault -1, frame 0, needed 0, dearest -1, work 0 1.
        long h = fold(17, 0, 0, 0, 0, 0, 1, 0, 2, 0, 1, -1, 0, 0, -1, 0, 1);
        due("35 of nothing", x.digest(), h);
        x = Due.bracket();
        due("35 UNBORNE", x.digest(), asTold(x));
        x.all();
        x.bar(0);
        x.shift(2, 1, -75);
        x.shift(2, 0, 48);
        due("35 bracket", x.digest(), 5137846796714897726L);
        due("35 bracket as told", x.digest(), asTold(x));
        x = Due.points(0, 2, 4, 2, 2, 0, 1, 4, 3, 4);
        x.hold(0, 3);
        x.hold(2, 3);
        x.load(1, 0, 4);
        x.load(3, 0, -1);
        x.load(3, 1, 4);
        x.load(4, 0, 1);
        x.load(4, 1, 4);
        x.bar(0);
        x.bar(5);
        x.bar(8);
        due("35 with crossings", x.digest(), asTold(x));
        x.all();
        due("35 with all bars", x.digest(), asTold(x));
        due("35 it changes nothing", x.digest(), x.digest());
    }
}
