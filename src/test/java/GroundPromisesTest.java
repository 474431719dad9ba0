/** Promises 1 to 10: points, holds, loads, bars. */
public final class GroundPromisesTest {
    public static void main(String[] args) {
        newObject();
        point();
        back();
        hold();
        load();
        bar();
        all();
        read();
        readEdges();
        info();
        pair();
        Due.end();
    }

    private static void due(String call, long got, long want) { Due.due(call, got, want); }

    private static void newObject() {
        LeastFrames x = new LeastFrames();
        due("1 points", x.count(0), 0);
        due("1 bars", x.count(1), 0);
        due("1 ways", x.count(2), 0);
        due("1 frame bars", x.count(3), 0);
        due("1 needed", x.count(4), 0);
        due("1 borne", x.count(5), 1);
        due("1 crossings", x.count(6), 0);
        due("1 proves", x.count(7), 2);
        due("1 finding", x.count(8), 0);
        for (int s = 0; s < 4; s++) {
            due("1 sheet " + s, x.get(s, 0), Due.NULL);
        }
        due("1 least above", x.least(0), 0);
        due("1 least below", x.least(1), 1);
        due("1 fault", x.fault(), LeastFrames.NONE);
        due("1 frame", x.frame(), 0);
        due("1 needed", x.needed(), 0);
        due("1 dearest", x.dearest(), LeastFrames.NONE);
        due("1 grow", x.grow(), 0);
        due("1 prune", x.prune(), 0);
        due("1 work", x.work(0), 0);
        due("1 work below", x.work(1), 1);
        due("1 another object knows nothing of it", new LeastFrames().point(0, 0), x.point(0, 0));
    }

    private static void point() {
        LeastFrames x = new LeastFrames();
        due("2 point at the least edge", x.point(0, 0), 0);
        due("2 point at the greatest edge", x.point(4, 4), 1);
        due("2 there is one there", x.point(4, 4), LeastFrames.NOT);
        due("2 there is one there, the first", x.point(0, 0), LeastFrames.NOT);
        due("2 x below", x.point(-1, 0), LeastFrames.BAD);
        due("2 x above", x.point(5, 0), LeastFrames.BAD);
        due("2 y below", x.point(0, -1), LeastFrames.BAD);
        due("2 y above", x.point(0, 5), LeastFrames.BAD);
        due("2 least ints", x.point(Integer.MIN_VALUE, Integer.MAX_VALUE), LeastFrames.BAD);
        due("2 like y alone", x.point(0, 4), 2);
        due("2 like x alone", x.point(4, 0), 3);
        due("2 the fifth", x.point(2, 1), 4);
        due("2 full", x.point(1, 2), LeastFrames.FULL);
        due("2 NOT ahead of FULL", x.point(2, 1), LeastFrames.NOT);
        due("2 BAD ahead of FULL", x.point(2, 5), LeastFrames.BAD);
        due("2 refusals change nothing", x.count(0), 5);
        for (int what = 2; what <= 6; what++) {
            due("2 neither held nor loaded nor shifted " + what, x.info(4, what), 0);
        }
    }

    private static void back() {
        LeastFrames x = Due.points(0, 0, 1, 0, 0, 1);
        x.all();
        x.hold(2, 3);
        x.load(2, 0, 4);
        x.load(2, 1, -5);
        x.shift(2, 0, 6);
        x.shift(2, 1, -7);
        due("3 back", x.back(), 2);
        due("3 its bars are gone", x.count(1), 1);
        due("3 the other bar is not", x.pair(0, 3), 1);
        due("3 the point is gone", x.info(2, 0), Due.LEAST_INT);
        due("3 its place is free again", x.point(0, 1), 2);
        for (int what = 2; what <= 6; what++) {
            due("3 nothing is kept of it " + what, x.info(2, what), 0);
        }
        due("3 no bars come back", x.bar(0), 0);
        due("3 back", x.back(), 2);
        due("3 back", x.back(), 1);
        due("3 back", x.back(), 0);
        due("3 there is none", x.back(), LeastFrames.NOT);
        LeastFrames y = Due.bracket();
        y.all();
        due("3 before", y.least(0), 82);
        y.back();
        due("3 its loads are gone", y.least(0), 0);
        LeastFrames z = Due.points(0, 0, 1, 0, 2, 0, 3, 0, 4, 0);
        for (int p = 3; p <= 4; p++) {
            z.load(p, 0, p);
            z.load(p, 1, -p);
            z.shift(p, 0, p);
            z.shift(p, 1, -p);
        }
        z.back();
        z.back();
        z.point(3, 3);
        z.point(4, 4);
        for (int what = 3; what <= 6; what++) {
            due("3 nothing is kept of 3 " + what, z.info(3, what), 0);
            due("3 nothing is kept of 4 " + what, z.info(4, what), 0);
        }
    }

    private static void hold() {
        LeastFrames x = Due.points(0, 0, 1, 0);
        due("4 at first not", x.hold(1, 2), 0);
        due("4 what it was", x.hold(1, 1), 2);
        due("4 what it was", x.hold(1, 3), 1);
        due("4 what it was", x.hold(1, 0), 3);
        due("4 bits above", x.hold(1, 4), LeastFrames.BAD);
        due("4 bits below", x.hold(1, -1), LeastFrames.BAD);
        due("4 no such point", x.hold(2, 0), LeastFrames.BAD);
        due("4 no such point", x.hold(-1, 0), LeastFrames.BAD);
        due("4 refusals change nothing", x.info(1, 2), 0);
        due("4 ways", x.count(2), 4);
        x.hold(0, 1);
        due("4 in x alone", x.count(2), 3);
        x.load(0, 0, 5);
        due("4 loads where it is held are not looked at", x.fault(), LeastFrames.NONE);
        x.hold(0, 2);
        due("4 held in y the x is free", x.fault(), 0);
        x.hold(0, 3);
        due("4 in both", x.count(2), 2);
    }

    private static void load() {
        LeastFrames x = Due.points(0, 0, 1, 0);
        due("5 at first 0", x.load(1, 0, 9), 0);
        due("5 what it was", x.load(1, 0, -9), 9);
        due("5 what it was", x.load(1, 0, 3), -9);
        due("5 y is another", x.load(1, 1, 1), 0);
        due("5 above", x.load(1, 0, 10), Due.LEAST_INT);
        due("5 below", x.load(1, 0, -10), Due.LEAST_INT);
        due("5 axis", x.load(1, 2, 0), Due.LEAST_INT);
        due("5 axis", x.load(1, -1, 0), Due.LEAST_INT);
        due("5 no such point", x.load(2, 0, 0), Due.LEAST_INT);
        due("5 no such point", x.load(-1, 0, 0), Due.LEAST_INT);
        due("5 x is kept", x.info(1, 3), 3);
        due("5 y is kept", x.info(1, 4), 1);
        due("5 the other has none", x.info(0, 3), 0);
        due("5 fault of it", x.fault(), 2);
    }

    private static void bar() {
        LeastFrames x = Due.points(0, 0, 1, 0, 2, 0, 3, 0);
        due("6 becomes a bar", x.bar(5), 32);
        due("6 another", x.bar(0), 33);
        due("6 is none any more", x.bar(5), 1);
        due("6 no such pair", x.bar(6), LeastFrames.BAD);
        due("6 no such pair", x.bar(-1), LeastFrames.BAD);
        due("6 no such pair, as far as shifts go round", x.bar(32), LeastFrames.BAD);
        due("6 refusals change nothing", x.count(1), 1);
        x.point(4, 0);
        due("6 the last pair", x.bar(9), 513);
        due("6 no pair beyond", x.bar(10), LeastFrames.BAD);
        due("6 no pairs of one point", Due.points(1, 1).bar(0), LeastFrames.BAD);
    }

    private static void all() {
        LeastFrames x = new LeastFrames();
        int[] pairs = {0, 0, 1, 3, 6, 10};
        for (int n = 0; n <= 5; n++) {
            due("7 all of " + n, x.all(), pairs[n]);
            due("7 bars of " + n, x.count(1), pairs[n]);
            x.point(n, 2);
        }
        due("7 those that are bars stay", x.bar(9), 511);
        due("7 all again", x.all(), 10);
        due("7 bars", x.count(1), 10);
    }

    private static void read() {
        LeastFrames x = Due.points(0, 0, 1, 0);
        x.load(1, 1, 7);
        due("8 LOST", x.read(2), -11);
        due("8 the finding", x.count(8), 1);
        due("8 no such sheet", x.read(4), LeastFrames.BAD);
        due("8 no such sheet", x.read(-1), LeastFrames.BAD);
        x.sheet(2, 0, 3);
        x.put(2, 0, 0, 9);
        x.put(2, 0, 1, -9);
        x.put(2, 0, 2, 5);
        due("8 all items", x.read(2), 3);
        due("8 x of 0", x.info(0, 3), 9);
        due("8 y of 0", x.info(0, 4), -9);
        due("8 x of 1", x.info(1, 3), 5);
        due("8 y of 1 stays", x.info(1, 4), 7);
        x.put(2, 0, 0, 1);
        x.put(2, 0, 1, 10);
        x.put(2, 0, 2, 2);
        due("8 up to one that may not be", x.read(2), 1);
        due("8 x of 0", x.info(0, 3), 1);
        due("8 y of 0 stays", x.info(0, 4), -9);
        due("8 x of 1 stays", x.info(1, 3), 5);
        x.put(2, 0, 0, -10);
        due("8 none", x.read(2), 0);
        due("8 x of 0 stays", x.info(0, 3), 1);
    }

    private static void readEdges() {
        LeastFrames x = Due.points(0, 0, 1, 0);
        x.sheet(3, 1, 40);
        due("8 no more than points have", x.read(3), 4);
        x.put(3, 1, 0, 2);
        x.put(3, 1, 1, -2);
        x.put(3, 1, 2, 2097151);
        due("8 longs", x.read(3), 2);
        due("8 of longs x of 0", x.info(0, 3), 8);
        due("8 of longs y of 0", x.info(0, 4), -8);
        // 2 to the power of 60 would be 0 as an int.
        x.put(3, 1, 1, 1 << 20);
        due("8 a long whose lowest bits are 0", x.read(3), 1);
        x.sheet(3, 0, 0);
        due("8 no items", x.read(3), 0);
        LeastFrames y = Due.bracket();
        y.all();
        y.sheet(0, 0, 6);
        due("8 all of the bracket", y.read(0), 6);
        due("8 its loads are none", y.least(0), 0);
        y.put(0, 0, 5, -3);
        y.read(0);
        due("8 its load is the one read", y.least(0), 41);
        LeastFrames z = new LeastFrames();
        z.sheet(0, 0, 5);
        due("8 no points", z.read(0), 0);
    }

    private static void info() {
        LeastFrames x = Due.points(4, 1, 2, 3);
        x.hold(1, 3);
        x.load(1, 0, -4);
        x.load(1, 1, 5);
        x.shift(1, 0, -999);
        x.shift(1, 1, 999);
        int[] told = {2, 3, 3, -4, 5, -999, 999};
        for (int what = 0; what <= 6; what++) {
            due("9 info " + what, x.info(1, what), told[what]);
        }
        due("9 x of 0", x.info(0, 0), 4);
        due("9 y of 0", x.info(0, 1), 1);
        due("9 what above", x.info(1, 7), Due.LEAST_INT);
        due("9 what below", x.info(1, -1), Due.LEAST_INT);
        due("9 no such point", x.info(2, 0), Due.LEAST_INT);
        due("9 no such point", x.info(-1, 0), Due.LEAST_INT);
    }

    private static void pair() {
        LeastFrames x = Due.points(0, 0, 4, 4, 1, 3, 2, 0, 3, 4);
        int[] lesser = {0, 0, 1, 0, 1, 2, 0, 1, 2, 3};
        int[] greater = {1, 2, 2, 3, 3, 3, 4, 4, 4, 4};
        int[] quad = {32, 10, 10, 4, 20, 10, 25, 1, 5, 17};
        x.bar(8);
        for (int k = 0; k < 10; k++) {
            due("10 lesser of " + k, x.pair(k, 0), lesser[k]);
            due("10 greater of " + k, x.pair(k, 1), greater[k]);
            due("10 quad of " + k, x.pair(k, 2), quad[k]);
            due("10 whether a bar " + k, x.pair(k, 3), k == 8 ? 1 : 0);
        }
        due("10 what above", x.pair(0, 4), LeastFrames.BAD);
        due("10 what below", x.pair(0, -1), LeastFrames.BAD);
        due("10 no such pair", x.pair(10, 0), LeastFrames.BAD);
        due("10 no such pair", x.pair(-1, 0), LeastFrames.BAD);
        x.back();
        due("10 its point is gone", x.pair(6, 0), LeastFrames.BAD);
        due("10 the last of four", x.pair(5, 1), 3);
        x.point(0, 4);
        due("10 quad of another point", x.pair(6, 2), 16);
        due("10 no bar", x.pair(8, 3), 0);
    }
}
