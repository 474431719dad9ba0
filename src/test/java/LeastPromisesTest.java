/** Promises 11 to 22: the least volume, its frame, and what would be with other bars or loads. */
public final class LeastPromisesTest {
    public static void main(String[] args) {
        least();
        leastAmongLines();
        fault();
        frame();
        pull();
        without();
        why();
        needed();
        dearest();
        gain();
        grow();
        growInOrder();
        prune();
        would();
        wouldBe();
        changesAreSeen();
        pointIsSeen();
        sevenBars();
        Due.end();
    }

    private static void due(String call, long got, long want) { Due.due(call, got, want); }

    private static void fraction(String call, long above, long below, long wantAbove, long wantBelow) {
        due(call + " above", above, wantAbove);
        due(call + " below", below, wantBelow);
    }

    private static LeastFrames bracket(int... bars) {
        LeastFrames x = Due.bracket();
        for (int k : bars) {
            x.bar(k);
        }
        return x;
    }

    /** Point 0 free between 1 and 2, which are held; its load of 3 costs 3 by bar 0, 9 by bar 1. */
    private static LeastFrames line() {
        LeastFrames x = Due.points(1, 0, 0, 0, 4, 0);
        x.hold(1, 3);
        x.hold(2, 3);
        x.load(0, 0, 3);
        return x;
    }

    /** Points 2 and 3 between 0 and 1, which are held; each has a cheap bar (1, 4) and a dear one (2, 3). */
    private static LeastFrames twoLines(int load) {
        LeastFrames x = Due.points(0, 0, 4, 0, 1, 0, 3, 0);
        x.hold(0, 3);
        x.hold(1, 3);
        x.load(2, 0, 3);
        x.load(3, 0, load);
        for (int k = 1; k <= 4; k++) {
            x.bar(k);
        }
        return x;
    }

    private static void least() {
        LeastFrames x = bracket();
        due("11 UNBORNE", x.least(0), Due.NOT);
        due("11 UNBORNE", x.least(1), Due.NOT);
        due("11 what ahead of NOT", x.least(2), Due.BAD);
        due("11 what", x.least(-1), Due.BAD);
        x = bracket(1, 2);
        fraction("11 bracket", x.least(0), x.least(1), 82, 1);
        due("11 what", x.least(2), Due.BAD);
        x.load(2, 1, -5);
        fraction("11 bracket by thirds", x.least(0), x.least(1), 205, 3);
        x.load(2, 1, 5);
        fraction("11 the other way round it is as much", x.least(0), x.least(1), 205, 3);
        x.load(2, 1, 0);
        fraction("11 no load", x.least(0), x.least(1), 0, 1);
        x.load(2, 1, -6);
        x.load(0, 0, 9);
        fraction("11 a load where it is held", x.least(0), x.least(1), 82, 1);
    }

    private static void leastAmongLines() {
        LeastFrames x = line();
        x.all();
        fraction("11 the cheaper bar", x.least(0), x.least(1), 3, 1);
        x.bar(0);
        fraction("11 the dearer one alone", x.least(0), x.least(1), 9, 1);
        x = Due.points(1, 1, 3, 1, 1, 3, 3, 3, 2, 2);
        x.all();
        x.load(0, 0, -9);
        x.load(0, 1, -9);
        x.load(3, 0, 9);
        x.load(3, 1, 9);
        fraction("11 nothing is held, loads even out", x.least(0), x.least(1), 36, 1);
        x.load(3, 1, 8);
        due("11 they do not", x.least(0), Due.NOT);
    }

    private static void fault() {
        LeastFrames x = Due.points(0, 0, 1, 1);
        x.hold(0, 3);
        due("12 no loads", x.fault(), LeastFrames.NONE);
        x.load(1, 1, 5);
        due("12 no bar: y of 1", x.fault(), 3);
        x.load(1, 0, 5);
        due("12 no bar: x of 1", x.fault(), 2);
        x.bar(0);
        due("12 along the bar", x.fault(), LeastFrames.NONE);
        x.load(1, 1, 4);
        due("12 x by itself, but not y with it", x.fault(), 3);
        x.hold(1, 2);
        due("12 y is no way", x.fault(), LeastFrames.NONE);
        x.hold(1, 1);
        due("12 x is no way", x.fault(), LeastFrames.NONE);
        x.hold(1, 3);
        due("12 no ways", x.fault(), LeastFrames.NONE);
        x.hold(1, 0);
        x.hold(0, 0);
        due("12 what comes at 0 is ahead", x.fault(), 2);
        x.load(0, 0, -5);
        due("12 x evens out, but y of 0 not with it", x.fault(), 1);
        x.load(1, 1, 5);
        x.load(0, 1, -5);
        due("12 both even out", x.fault(), LeastFrames.NONE);
        due("12 least of it", x.least(0), 10);
    }

    private static void frame() {
        due("13 UNBORNE", bracket(1).frame(), LeastFrames.NOT);
        due("13 bracket", bracket(1, 2).frame(), 6);
        due("13 a bar between held points is of no use", bracket(0, 1, 2).frame(), 6);
        LeastFrames x = line();
        x.all();
        due("13 the cheaper one", x.frame(), 1);
        x.load(0, 0, 0);
        due("13 no load", x.frame(), 0);
        // One bar of 4, or two of 2 each: alike in volume, whichever is less as bits.
        x = Due.points(0, 0, 1, 0, 2, 0);
        x.hold(0, 3);
        x.load(2, 0, 2);
        x.all();
        due("13 least", x.least(0), 4);
        due("13 the long bar is less as bits", x.frame(), 2);
        x = Due.points(1, 0, 0, 0, 2, 0);
        x.hold(1, 3);
        x.load(2, 0, 2);
        x.all();
        due("13 the short bars are less as bits", x.frame(), 3);
        due("13 least", x.least(0), 4);
        // Two alike bars bear half each as well, but one is enough.
        x = Due.points(2, 2, 0, 0, 4, 4);
        x.hold(1, 3);
        x.hold(2, 3);
        x.load(0, 0, 3);
        x.load(0, 1, 3);
        x.all();
        due("13 one of two", x.frame(), 1);
        x.bar(0);
        due("13 the other", x.frame(), 2);
    }

    private static void pull() {
        LeastFrames x = bracket(0, 1, 2);
        fraction("14 pushes", x.pull(1, 0), x.pull(1, 1), -2, 1);
        fraction("14 pulls", x.pull(2, 0), x.pull(2, 1), 2, 1);
        fraction("14 not of it", x.pull(0, 0), x.pull(0, 1), 0, 1);
        x.load(2, 1, 5);
        fraction("14 pulls by thirds", x.pull(1, 0), x.pull(1, 1), 5, 3);
        fraction("14 pushes by thirds", x.pull(2, 0), x.pull(2, 1), -5, 3);
        x.bar(0);
        fraction("14 no bar at all", x.pull(0, 0), x.pull(0, 1), 0, 1);
        due("14 no such pair", x.pull(3, 0), Due.BAD);
        due("14 no such pair", x.pull(-1, 0), Due.BAD);
        due("14 what", x.pull(0, 2), Due.BAD);
        due("14 what", x.pull(0, -1), Due.BAD);
        x.bar(1);
        due("14 UNBORNE", x.pull(2, 0), Due.NOT);
        due("14 UNBORNE, of no bar", x.pull(1, 1), Due.NOT);
        due("14 BAD ahead of NOT", x.pull(3, 0), Due.BAD);
        due("14 BAD ahead of NOT", x.pull(2, 2), Due.BAD);
    }

    private static void without() {
        LeastFrames x = line();
        x.all();
        fraction("15 the cheap one", x.without(0, 0), x.without(0, 1), 9, 1);
        fraction("15 the dear one", x.without(1, 0), x.without(1, 1), 3, 1);
        x.load(0, 0, 4);
        x.bar(2);
        fraction("15 it is not taken away", x.least(0), x.least(1), 4, 1);
        due("15 it is none", x.without(2, 0), Due.BAD);
        due("15 no such pair", x.without(3, 0), Due.BAD);
        due("15 no such pair", x.without(-1, 0), Due.BAD);
        due("15 what", x.without(0, 2), Due.BAD);
        due("15 what", x.without(0, -1), Due.BAD);
        x.bar(1);
        due("15 UNBORNE then", x.without(0, 0), Due.NOT);
        due("15 UNBORNE then", x.without(0, 1), Due.NOT);
        x = bracket(1);
        due("15 UNBORNE as it is, too", x.without(1, 0), Due.NOT);
        due("15 BAD ahead of NOT", x.without(2, 0), Due.BAD);
        x = bracket(1, 2);
        x.load(2, 1, -5);
        x.load(2, 0, 1);
        x.point(4, 4);
        x.hold(3, 3);
        x.bar(5);
        // Without bar 2 the load of 5 down hangs by bar 5, 4 up: 5/4 of 16; the 1 sideways, by bar 1, is 4.
        fraction("15 by fractions", x.without(2, 0), x.without(2, 1), 24, 1);
    }

    private static void why() {
        LeastFrames x = bracket(1, 2);
        due("16 without 1: y comes behind x", x.why(1), 5);
        due("16 without 2", x.why(2), 5);
        x.load(2, 0, 1);
        x.bar(0);
        due("16 of no use", x.why(0), LeastFrames.NONE);
        due("16 no such pair", x.why(3), LeastFrames.BAD);
        due("16 no such pair", x.why(-1), LeastFrames.BAD);
        x.bar(1);
        due("16 it is none", x.why(1), LeastFrames.BAD);
        due("16 without any: x", x.why(2), 4);
        due("16 it is not taken away", x.pair(2, 3), 1);
        due("16 UNBORNE as it is", x.why(0), 5);
    }

    private static void needed() {
        due("17 UNBORNE", bracket(2).needed(), LeastFrames.NOT);
        due("17 both, none else", bracket(0, 1, 2).needed(), 6);
        LeastFrames x = line();
        x.all();
        due("17 it would be dearer", x.needed(), 1);
        due("17 of two lines", twoLines(3).needed(), 18);
        x = Due.points(2, 2, 0, 0, 4, 4);
        x.hold(1, 3);
        x.hold(2, 3);
        x.load(0, 0, 3);
        x.load(0, 1, 3);
        x.all();
        due("17 either of two: none", x.needed(), 0);
        x.bar(0);
        due("17 the only one", x.needed(), 2);
        x.load(0, 0, 0);
        x.load(0, 1, 0);
        due("17 no load", x.needed(), 0);
    }

    private static void dearest() {
        due("18 UNBORNE", bracket(2).dearest(), LeastFrames.NOT);
        due("18 of like ones the least", bracket(0, 1, 2).dearest(), 1);
        due("18 no bars", Due.points(0, 0, 1, 0).dearest(), LeastFrames.NONE);
        LeastFrames x = line();
        x.all();
        due("18 the one that is needed", x.dearest(), 0);
        due("18 alike: the least", twoLines(3).dearest(), 1);
        due("18 the greater", twoLines(4).dearest(), 4);
        due("18 the greater", twoLines(2).dearest(), 1);
        x = line();
        x.point(3, 0);
        x.load(3, 0, 2);
        x.bar(0);
        x.bar(1);
        x.bar(4);
        x.bar(5);
        due("18 needed", x.needed(), 33);
        due("18 the first is the greater", x.dearest(), 0);
        // Bar 0 is needed, but less so than bar 4, without which point 3 has nothing to hang from.
        x = line();
        x.point(0, 2);
        x.hold(3, 1);
        x.load(3, 1, 2);
        x.bar(0);
        x.bar(1);
        x.bar(4);
        due("18 needed", x.needed(), 17);
        due("18 least", x.least(0), 7);
        due("18 dear without 0", x.without(0, 0), 13);
        due("18 UNBORNE without 4", x.why(4), 7);
        due("18 UNBORNE is dearer", x.dearest(), 4);
        x.load(0, 0, 0);
        x.load(3, 1, 0);
        due("18 none is needed", x.dearest(), LeastFrames.NONE);
    }

    private static void gain() {
        LeastFrames x = line();
        x.bar(1);
        fraction("19 the cheap one", x.gain(0, 0), x.gain(0, 1), 6, 1);
        fraction("19 of no use", x.gain(2, 0), x.gain(2, 1), 0, 1);
        due("19 it is a bar", x.gain(1, 0), Due.BAD);
        due("19 no such pair", x.gain(3, 0), Due.BAD);
        due("19 no such pair", x.gain(-1, 0), Due.BAD);
        due("19 what", x.gain(0, 2), Due.BAD);
        due("19 what", x.gain(0, -1), Due.BAD);
        due("19 it does not become one", x.least(0), 9);
        x.load(0, 0, 4);
        fraction("19 of other loads", x.gain(0, 0), x.gain(0, 1), 8, 1);
        x.bar(1);
        due("19 UNBORNE as it is, though not with it", x.gain(0, 0), Due.NOT);
        due("19 BAD ahead of NOT", x.gain(3, 0), Due.BAD);
        due("19 BAD ahead of NOT", x.gain(0, 2), Due.BAD);
        // 5 down by bars 1 and 2 is 205/3; straight up it is 20.
        x = bracket(1, 2);
        x.load(2, 1, -5);
        x.point(4, 4);
        x.hold(3, 3);
        fraction("19 by thirds", x.gain(5, 0), x.gain(5, 1), 145, 3);
    }

    private static void grow() {
        due("20 UNBORNE", bracket(1).grow(), LeastFrames.NOT);
        LeastFrames x = line();
        x.bar(1);
        due("20 the cheap one came", x.grow(), 1);
        due("20 it did", x.bar(2), 7);
        due("20 none more", x.grow(), 0);
        due("20 least", x.least(0), 3);
        x = line();
        x.bar(0);
        due("20 nothing to save", x.grow(), 0);
        due("20 nothing came", x.count(1), 1);
    }

    private static LeastFrames tower(int bars, int point, int load, int... places) {
        LeastFrames x = Due.points(places);
        x.hold(0, 3);
        x.hold(1, 3);
        x.load(point, 1, load);
        for (int k = 0; k < 10; k++) {
            if ((bars >> k & 1) == 1) {
                x.bar(k);
            }
        }
        return x;
    }

    private static int bars(LeastFrames x) {
        x.bar(0);
        return x.bar(0);
    }

    private static void growInOrder() {
        LeastFrames x = tower(747, 3, 6, 0, 0, 2, 1, 0, 4, 4, 4, 1, 2);
        due("20 before", x.least(0), 288);
        fraction("20 gain of 2", x.gain(2, 0), x.gain(2, 1), 141, 1);
        fraction("20 gain of 4, the greatest", x.gain(4, 0), x.gain(4, 1), 918, 5);
        fraction("20 gain of 8", x.gain(8, 0), x.gain(8, 1), 112, 1);
        due("20 4 and 2, 8 has no gain then", x.grow(), 2);
        due("20 bars", bars(x), 767);
        due("20 after", x.least(0), 92);
        x = tower(910, 2, 5, 1, 0, 0, 0, 4, 3, 2, 3, 0, 4);
        due("20 gain of 4", x.gain(4, 0), 76);
        due("20 gain of 6, as great", x.gain(6, 0), 76);
        due("20 the least of like ones, and one more", x.grow(), 2);
        due("20 bars", bars(x), 958);
        due("20 after", x.least(0), 155);
        x = tower(940, 3, 6, 0, 3, 2, 3, 3, 1, 4, 2, 3, 0);
        due("20 before", x.least(0), 1242);
        due("20 three came", x.grow(), 3);
        due("20 bars", bars(x), 1022);
        due("20 after", x.least(0), 82);
    }

    private static void prune() {
        due("21 UNBORNE", bracket(1).prune(), LeastFrames.NOT);
        LeastFrames x = bracket(0, 1, 2);
        due("21 one is gone", x.prune(), 1);
        due("21 the frame is left", bars(x), 6);
        due("21 none more", x.prune(), 0);
        x.load(2, 1, 0);
        due("21 no load, no bars", x.prune(), 2);
        due("21 none left", x.count(1), 0);
        x = bracket(1);
        x.prune();
        due("21 UNBORNE, nothing changes", x.count(1), 1);
    }

    private static void would() {
        LeastFrames x = bracket(1, 2);
        fraction("22 half the load", x.would(2, 1, -3, 0), x.would(2, 1, -3, 1), 41, 1);
        fraction("22 by thirds", x.would(2, 1, 5, 0), x.would(2, 1, 5, 1), 205, 3);
        fraction("22 a load in x that spares bar 1", x.would(2, 0, 8, 0), x.would(2, 0, 8, 1), 50, 1);
        fraction("22 none", x.would(2, 1, 0, 0), x.would(2, 1, 0, 1), 0, 1);
        x.load(0, 1, 4);
        x.load(1, 0, -7);
        fraction("22 where it is held", x.would(0, 0, 9, 0), x.would(1, 1, -9, 1), 82, 1);
        due("22 the load stays", x.info(2, 4), -6);
        due("22 and so does that in x", x.info(2, 3), 0);
        due("22 and those of 0", x.info(0, 3) * 100 + x.info(0, 4), 4);
        due("22 and those of 1", x.info(1, 3) * 100 + x.info(1, 4), -700);
        due("22 and the least", x.least(0), 82);
        due("22 and the pulls", x.pull(1, 0), -2);
        due("22 no such point", x.would(3, 0, 0, 0), Due.BAD);
        due("22 no such point", x.would(-1, 0, 0, 0), Due.BAD);
        due("22 axis", x.would(2, 2, 0, 0), Due.BAD);
        due("22 axis", x.would(2, -1, 0, 0), Due.BAD);
        due("22 above", x.would(2, 0, 10, 0), Due.BAD);
        due("22 below", x.would(2, 0, -10, 0), Due.BAD);
        due("22 what", x.would(2, 0, 0, 2), Due.BAD);
        due("22 what", x.would(2, 0, 0, -1), Due.BAD);
    }

    private static void wouldBe() {
        LeastFrames x = bracket(1);
        due("22 UNBORNE then", x.would(2, 1, -1, 0), Due.NOT);
        due("22 UNBORNE then, below", x.would(2, 1, -1, 1), Due.NOT);
        fraction("22 UNBORNE as it is, but not then", x.would(2, 1, 0, 0), x.would(2, 1, 0, 1), 0, 1);
        due("22 BAD ahead of NOT", x.would(2, 1, -1, 2), Due.BAD);
        due("22 UNBORNE as it is", x.least(0), Due.NOT);
        due("22 pairs that are no bars do not help", x.would(2, 0, 9, 0), Due.NOT);
        x.bar(1);
        x.bar(2);
        // The load of 8 in x and -6 in y is along bar 2.
        due("22 along the bar", x.would(2, 0, 8, 0), 50);
    }

    /** A point in the midst of nothing, by which a load comes to be borne. */
    private static void pointIsSeen() {
        LeastFrames x = Due.points(0, 0, 4, 0);
        x.hold(0, 3);
        x.load(1, 0, 1);
        due("no bar", x.least(0), Due.NOT);
        x.point(2, 0);
        x.bar(1);
        x.bar(2);
        due("two bars by another point", x.least(0), 4);
        due("pull of the first", x.pull(1, 1), 2);
    }

    /** No more than seven bars ever are of a frame; these are, and pull by fractions. */
    private static void sevenBars() {
        LeastFrames x = Due.points(2, 4, 0, 2, 3, 0, 4, 4, 4, 1);
        x.hold(0, 3);
        x.hold(1, 2);
        int[] loads = {-3, 0, 0, 3, 0, 3, -3, 1, 2, 3};
        for (int way = 0; way < 10; way++) {
            x.load(way / 2, way % 2, loads[way]);
        }
        x.all();
        fraction("seven bars", x.least(0), x.least(1), 507, 5);
        due("which ones", x.frame(), 719);
        int[] above = {-13, -9, 3, -3, 0, 0, -9, 7, 0, 1};
        int[] below = {4, 10, 10, 2, 1, 1, 5, 5, 1, 3};
        for (int k = 0; k < 10; k++) {
            fraction("pull of " + k, x.pull(k, 0), x.pull(k, 1), above[k], below[k]);
        }
        due("how many", x.count(3), 7);
    }

    /** Whatever changes points, holds, loads or bars is seen by all that asks for the least. */
    private static void changesAreSeen() {
        LeastFrames x = bracket(1, 2);
        due("bracket", x.least(0), 82);
        x.load(2, 1, -3);
        due("another load", x.least(0), 41);
        due("another pull", x.pull(2, 0), 1);
        x.hold(2, 2);
        due("held in y", x.least(0), 0);
        x.hold(2, 0);
        due("not any more", x.frame(), 6);
        x.point(4, 4);
        due("one point more", x.least(0), 41);
        x.hold(3, 3);
        due("its gain", x.gain(5, 0), 29);
        x.bar(5);
        due("its bar", x.least(0), 12);
        due("its pull", x.pull(5, 0), 3);
        due("what is needed", x.needed(), 32);
        x.back();
        due("gone again", x.least(0), 41);
        x.point(0, 1);
        due("another one there", x.gain(5, 0), 0);
        x.bar(2);
        due("one bar less", x.least(0), Due.NOT);
        x.all();
        due("all bars", x.frame(), 6);
    }
}
