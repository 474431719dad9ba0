import java.util.List;

/** Boundary cases that the terms name, each under the sentence that names it. */
final class TermsEdges {
    private static final int BAD = LeastFrames.BAD, NOT = LeastFrames.NOT, NONE = LeastFrames.NONE;

    private TermsEdges() { }

    static void run() {
        points();
        calls();
        held();
        loads();
        ways();
        loadsInOthers();
        pairs();
        bars();
        quad();
        pulls();
        brought();
        bear();
        volume();
        least();
        frame();
        oneSetOfPulls();
        fault();
        fractions();
        sheets();
        findings();
        needed();
        dearest();
        gain();
        grow();
        shifts();
        shiftsHeld();
        stretch();
        bounded();
        work();
        cross();
        crossOrder();
        order();
        changeNothing();
        asLongs();
    }

    private static void of(String words) { Sentence.of(Sentence.TERMS, words); }

    private static void due(String call, long got, long want) { Sentence.due(call, got, want); }

    private static void due(String call, long above, long below, long wantAbove, long wantBelow) {
        Sentence.due(call, above, below, wantAbove, wantBelow);
    }

    private static void points() {
        of("POINTS, 5 at most, 0 on, are at whole x, y (0 to 4 each), no two at one place");
        for (int place = 0; place < 25; place++) {
            LeastFrames x = new LeastFrames();
            for (int i = 0; i < 5; i++) {
                int at = (place + 6 * i) % 25;
                due("number of point " + i, x.point(at / 5, at % 5), i);
                due("x of point " + i, x.info(i, 0), at / 5);
                due("y of point " + i, x.info(i, 1), at % 5);
            }
            for (int other = 0; other < 25; other++) {
                boolean taken = (other - place + 25) % 25 % 6 == 0;
                due("a sixth at " + other, x.point(other / 5, other % 5), taken ? NOT : LeastFrames.FULL);
            }
            due("points", x.count(0), 5);
        }
    }

    private static void calls() {
        of("An object is used for at most 512 calls after it has been made");
        LeastFrames x = State.SOME.make();
        int made = 14;
        for (int call = made; call < 510; call++) {
            x.hold(2, call % 4);
        }
        x.hold(2, 0);
        due("the 512th call", x.digest(), State.SOME.make().digest());
    }

    private static void held() {
        of("A POINT is HELD in x (1), in y (2), in both (3), or not (0, at first)");
        LeastFrames x = Due.points(0, 0, 1, 1);
        x.hold(0, 3);
        due("at first", x.info(1, 2), 0);
        int[] ways = {2, 1, 1, 0};
        for (int bits = 0; bits <= 3; bits++) {
            x.hold(1, bits);
            due("held by " + bits, x.info(1, 2), bits);
            due("ways of " + bits, x.count(2), ways[bits]);
            x.load(1, 0, 1);
            due("load in x, held by " + bits, x.fault(), bits % 2 == 0 ? 2 : NONE);
            x.load(1, 0, 0);
            x.load(1, 1, 1);
            due("load in y, held by " + bits, x.fault(), bits < 2 ? 3 : NONE);
            x.load(1, 1, 0);
        }
    }

    private static void loads() {
        of("it has a LOAD in x and one in y (-9 to 9; 0 at first)");
        LeastFrames x = Due.points(2, 2);
        due("at first, in x", x.info(0, 3), 0);
        due("at first, in y", x.info(0, 4), 0);
        for (int v = -9; v <= 9; v++) {
            x.load(0, 0, v);
            x.load(0, 1, -v);
            due("in x", x.info(0, 3), v);
            due("in y", x.info(0, 4), -v);
        }
        due("one less", x.load(0, 0, -10), State.LEAST_INT);
        due("one more", x.load(0, 1, 10), State.LEAST_INT);
        due("in x it stays", x.info(0, 3), 9);
        due("in y it stays", x.info(0, 4), -9);
    }

    private static void ways() {
        of("WAYS are 2 times a POINT and 0 (x), 1 (y), those in which it is not HELD");
        LeastFrames x = Due.points(0, 0, 1, 0, 2, 0, 3, 0, 4, 0);
        for (int way = 0; way < 10; way++) {
            x.load(way / 2, way % 2, 1);
            due("the one that is loaded", x.fault(), way);
            due("all of them", x.count(2), 10);
            x.hold(way / 2, 1 + way % 2);
            due("held, it is none", x.fault(), NONE);
            due("the others", x.count(2), 9);
            x.hold(way / 2, 2 - way % 2);
            due("held in the other, it is one", x.fault(), way);
            x.hold(way / 2, 0);
            x.load(way / 2, way % 2, 0);
        }
        for (int p = 0; p < 5; p++) {
            x.hold(p, 3);
        }
        due("none", x.count(2), 0);
    }

    private static void loadsInOthers() {
        of("LOADS in others are not looked at");
        LeastFrames x = Due.bracket();
        x.all();
        x.load(0, 0, 9);
        x.load(1, 1, -9);
        x.shift(0, 0, 999);
        due("least", x.least(0), x.least(1), 82, 1);
        due("fault", x.fault(), NONE);
        due("frame", x.frame(), 6);
        due("pull", x.pull(2, 0), x.pull(2, 1), 2, 1);
        due("pull of the bar between them", x.pull(0, 0), x.pull(0, 1), 0, 1);
        due("work", x.work(0), x.work(1), 0, 1);
        due("what a load there would cost", x.would(1, 0, -9, 0), x.would(1, 0, -9, 1), 82, 1);
        x.hold(2, 2);
        due("held in y: nothing to bear", x.least(0), 0);
    }

    private static void pairs() {
        of("PAIRS of POINTS i and j, i less than j, are numbered j times (j less 1) by 2, and i");
        LeastFrames x = Due.points(0, 0, 1, 0, 2, 0, 3, 0, 4, 0);
        for (int j = 1; j < 5; j++) {
            for (int i = 0; i < j; i++) {
                int k = j * (j - 1) / 2 + i;
                due("lesser one of " + k, x.pair(k, 0), i);
                due("greater one of " + k, x.pair(k, 1), j);
                due("its bit", x.bar(k), 1 << k);
                x.bar(k);
            }
        }
        due("the first of none", Due.points(0, 0).pair(0, 0), BAD);
        due("the last", x.pair(9, 0), 3);
        due("one beyond it", x.pair(10, 0), BAD);
        x.back();
        due("the last of four points", x.pair(5, 0), 2);
        due("one beyond it, of four points", x.pair(6, 0), BAD);
    }

    private static void bars() {
        of("Some PAIRS are BARS (none at first)");
        LeastFrames x = Due.points(0, 0, 1, 0, 2, 0, 3, 0);
        due("none", x.count(1), 0);
        x.all();
        x.point(4, 0);
        due("those of another point are none", x.count(1), 6);
        for (int k = 0; k < 10; k++) {
            due("pair " + k, x.pair(k, 3), k < 6 ? 1 : 0);
        }
    }

    private static void quad() {
        of("LENGTH of a PAIR, squared: QUAD");
        int least = 99, most = 0;
        for (int a = 0; a < 25; a++) {
            LeastFrames x = Due.points(a / 5, a % 5);
            for (int b = 0; b < 25; b++) {
                if (x.point(b / 5, b % 5) == 1) {
                    int dx = b / 5 - a / 5, dy = b % 5 - a % 5;
                    due("from " + a + " to " + b, x.pair(0, 2), dx * dx + dy * dy);
                    least = Math.min(least, x.pair(0, 2));
                    most = Math.max(most, x.pair(0, 2));
                    x.back();
                }
            }
        }
        due("the least", least, 1);
        due("the greatest", most, 32);
    }

    private static void pulls() {
        of("PULLS are a number q for each BAR, above 0 (it pulls), below (it pushes) or 0");
        LeastFrames x = Due.points(0, 0, 2, 0);
        x.hold(0, 3);
        x.all();
        x.load(1, 0, 1);
        due("away: it pulls", x.pull(0, 0), x.pull(0, 1), 1, 2);
        x.load(1, 0, -1);
        due("towards: it pushes", x.pull(0, 0), x.pull(0, 1), -1, 2);
        x.load(1, 0, 0);
        due("neither", x.pull(0, 0), x.pull(0, 1), 0, 1);
    }

    private static void brought() {
        of("at each of its POINTS it brings q times how far the other one is, in x and in y");
        for (int a = 0; a < 25; a++) {
            for (int b = 0; b < 25; b++) {
                if (a != b) {
                    oneBar(a, b, 0);
                    oneBar(a, b, 1);
                }
            }
        }
    }

    /** A bar of two points, of which the lesser or the greater one is free and is pulled by 2 lengths. */
    private static void oneBar(int a, int b, int free) {
        LeastFrames x = Due.points(a / 5, a % 5, b / 5, b % 5);
        x.hold(1 - free, 3);
        int sign = free == 1 ? 2 : -2;
        x.load(free, 0, sign * (b / 5 - a / 5));
        x.load(free, 1, sign * (b % 5 - a % 5));
        x.all();
        due("pull from " + a + " to " + b, x.pull(0, 0), x.pull(0, 1), 2, 1);
    }

    /** Asks whether the pulls that are told come to 0 with the load at each way. */
    static void balance(LeastFrames x) {
        int n = x.count(0);
        for (int way = 0; way < 2 * n; way++) {
            int p = way / 2, axis = way % 2;
            if ((x.info(p, 2) >> axis & 1) == 1) {
                continue;
            }
            Fraction sum = Fraction.of(x.info(p, 3 + axis));
            for (int k = 0; k < n * (n - 1) / 2; k++) {
                int i = x.pair(k, 0), j = x.pair(k, 1);
                if (i == p || j == p) {
                    int far = x.info(i == p ? j : i, axis) - x.info(p, axis);
                    sum = sum.plus(Fraction.of(x.pull(k, 0), x.pull(k, 1)).times(Fraction.of(far)));
                }
            }
            due("what is left at way " + way + ", " + sum, sum.sign(), 0);
        }
    }

    private static void bear() {
        of("PULLS BEAR the LOADS, if at each WAY all that is brought and the LOAD come to 0 together");
        balance(State.SOME.make());
        balance(State.FULL.make());
        balance(LeastEdges.farPull());
        LeastFrames x = Due.points(0, 0, 1, 1);
        x.hold(0, 3);
        x.all();
        x.load(1, 0, 9);
        x.load(1, 1, 9);
        due("along the bar", x.count(5), 1);
        x.load(1, 1, 8);
        due("a little beside it", x.count(5), 0);
    }

    private static Fraction volume(LeastFrames x) {
        Fraction sum = Fraction.ZERO;
        for (int k = 0; x.pair(k, 2) >= 0; k++) {
            Fraction pull = Fraction.of(x.pull(k, 0), x.pull(k, 1));
            sum = sum.plus(pull.size().times(Fraction.of(x.pair(k, 2))));
        }
        return sum;
    }

    private static void volume() {
        of("Their VOLUME is the sum, over all BARS, of QUAD times q without its sign");
        for (LeastFrames x : List.of(State.SOME.make(), State.FULL.make(), LeastEdges.farPull())) {
            Fraction sum = volume(x);
            due("volume of its pulls", x.least(0), x.least(1), sum.part(0), sum.part(1));
        }
        LeastFrames x = Due.points(0, 0, 4, 4);
        x.hold(0, 3);
        x.all();
        x.load(1, 0, -9);
        x.load(1, 1, -9);
        due("a push counts as a pull", x.least(0), x.least(1), 72, 1);
    }

    private static void least() {
        of("LEAST: the least VOLUME of PULLS that BEAR the LOADS");
        LeastFrames x = LeastEdges.line();
        x.all();
        due("of two bars the cheaper one", x.least(0), x.least(1), 3, 1);
        x.load(0, 0, -3);
        due("the other way round, too", x.least(0), x.least(1), 3, 1);
        x.bar(0);
        due("the other one alone", x.least(0), x.least(1), 9, 1);
        x.load(0, 0, 0);
        due("nothing to bear", x.least(0), x.least(1), 0, 1);
    }

    private static void frame() {
        of("FRAME: of all sets of BARS that can BEAR them with a VOLUME of LEAST, all others 0, the one that is"
            + " least as bits (PAIR 0 the lowest)");
        LeastFrames x = Due.points(0, 0, 1, 0, 2, 0, 3, 0, 4, 0);
        due("no bars", x.frame(), 0);
        x.hold(0, 3);
        x.all();
        due("nothing to bear", x.frame(), 0);
        x.load(4, 0, 1);
        due("one long bar, not two, three or four that are higher as bits", x.frame(), 64);
        x.bar(6);
        due("two bars: by 1, the lowest", x.frame(), 129);
        x.bar(7);
        due("two bars: by 2", x.frame(), 258);
        x.bar(8);
        due("two bars: by 3", x.frame(), 520);
        x.bar(3);
        due("three bars", x.frame(), 512 + 16 + 1);
        x.bar(4);
        due("three bars, the others", x.frame(), 512 + 32 + 2);
        x.bar(1);
        due("four bars", x.frame(), 512 + 32 + 4 + 1);
        due("all are as dear", x.least(0), 4);
    }

    private static void oneSetOfPulls() {
        of("it has just one such set of PULLS");
        LeastFrames x = Due.points(2, 2, 0, 0, 4, 4);
        x.hold(1, 3);
        x.hold(2, 3);
        x.load(0, 0, 4);
        x.load(0, 1, 4);
        x.all();
        due("of two that could share it one bears all", x.frame(), 1);
        due("its pull", x.pull(0, 0), x.pull(0, 1), 2, 1);
        due("the other's", x.pull(1, 0), x.pull(1, 1), 0, 1);
        for (State state : List.of(State.SOME, State.FULL)) {
            LeastFrames y = state.make();
            for (int k = 0; k < state.pairs(); k++) {
                due("bars of it do pull or push", y.pull(k, 0) != 0 ? 1 : 0, y.frame() >> k & 1);
            }
        }
    }

    private static void fault() {
        of("If no PULLS BEAR the LOADS, they are UNBORNE: FAULT is the first WAY so that none bring 0 together at it"
            + " and all WAYS ahead of it");
        LeastFrames x = Due.points(0, 0, 4, 4);
        x.all();
        x.load(0, 0, 1);
        due("x of 0 alone could be, y with it not", x.fault(), 1);
        x.load(0, 1, 1);
        due("both of 0 could be, x of 1 with them not", x.fault(), 2);
        x.load(1, 0, -1);
        due("y of 1 not", x.fault(), 3);
        x.load(1, 1, -1);
        due("all of them", x.fault(), NONE);
        x.load(1, 1, -2);
        due("the last way", x.fault(), 3);
        x.bar(0);
        due("without the bar the first way", x.fault(), 0);
        x = Due.points(0, 0, 1, 0, 2, 0, 3, 0, 4, 0);
        x.all();
        x.load(4, 1, 1);
        due("the last of all", x.fault(), 9);
        x.load(0, 1, 1);
        due("the first one that is beside all bars", x.fault(), 1);
    }

    private static void fractions() {
        of("FRACTIONS are told in lowest terms, above and below (below above 0; 0 by 1)");
        LeastFrames x = Due.points(0, 0, 4, 0);
        x.hold(0, 3);
        x.all();
        int[] above = {-9, -2, -7, -3, -5, -1, -3, -1, -1, 0, 1, 1, 3, 1, 5, 3, 7, 2, 9};
        int[] below = {4, 1, 4, 2, 4, 1, 4, 2, 4, 1, 4, 2, 4, 1, 4, 2, 4, 1, 4};
        for (int v = -9; v <= 9; v++) {
            x.load(1, 0, v);
            due("pull of " + v + " by 4", x.pull(0, 0), x.pull(0, 1), above[v + 9], below[v + 9]);
        }
        for (int v = -24; v <= 24; v++) {
            x.shift(1, 0, v);
            Fraction stretch = Fraction.of(4 * v, 12), work = Fraction.of(9 * v, 12);
            due("stretch of " + v, x.stretch(0, 0), x.stretch(0, 1), stretch.part(0), stretch.part(1));
            due("work of " + v, x.work(0), x.work(1), work.part(0), work.part(1));
        }
    }

    private static void sheets() {
        of("SHEETS 0 .. 3 are LOST (at first) or a row of a FORM: 0 ints, 1 longs, of 0 to 40 items (0 at first)");
        for (int s = 0; s <= 3; s++) {
            LeastFrames x = new LeastFrames();
            due("at first LOST", x.lose(s), State.NULL);
            for (int form = 0; form <= 1; form++) {
                due("of no items", x.sheet(s, form, 0), 0);
                due("it has none", x.get(s, 0), State.asLong(State.INDEX));
                due("of 40", x.sheet(s, form, 40), 40);
                for (int i = 0; i < 40; i++) {
                    due("0 at first", x.get(s, i), 0);
                    due("of that FORM", x.put(s, form, i, 1), 1);
                }
                due("no more", x.get(s, 40), State.asLong(State.INDEX));
                due("not of the other FORM", x.put(s, 1 - form, 0, 1), State.CAST);
                due("of 41", x.sheet(s, form, 41), BAD);
                due("of fewer than none", x.sheet(s, form, -1), State.SIZE);
            }
            due("no third FORM", x.sheet(s, 2, 1), BAD);
        }
        due("no SHEET ahead of them", new LeastFrames().sheet(-1, 0, 1), BAD);
        due("no SHEET beyond them", new LeastFrames().sheet(4, 0, 1), BAD);
    }

    private static void found(String call, LeastFrames x, long got, int number) {
        due(call, got, -10 - number);
        due("count(8) after it", x.count(8), number);
    }

    private static void findings() {
        LeastFrames x = new LeastFrames();
        of("FINDINGS (answers -10 less the number; they change nothing but count() 8): 1 NULL: the SHEET is LOST");
        found("lose", x, x.lose(0), 1);
        State.alike("after NULL", x, new LeastFrames());
        of("2 INDEX: there is no such item");
        x.sheet(0, 0, 1);
        found("put", x, x.put(0, 0, 1, 0), 2);
        of("3 CAST: it has another FORM");
        found("put", x, x.put(0, 1, 0, 0), 3);
        of("4 STORE: unlike FORMS");
        x.sheet(1, 1, 1);
        found("copy", x, x.copy(0, 0, 1, 0, 1), 4);
        of("5 SIZE: below 0");
        found("sheet", x, x.sheet(1, 1, -1), 5);
        of("6 OVER: it is no long");
        found("put", x, x.put(1, 1, 0, 2097152), 6);
    }

    private static void needed() {
        of("A BAR is NEEDED, if without it LOADS are UNBORNE, or LEAST is greater");
        LeastFrames x = LeastEdges.line();
        x.bar(0);
        due("the only one", x.needed(), 1);
        x.bar(1);
        due("without it, dearer", x.needed(), 1);
        x.load(0, 0, 0);
        due("nothing to bear", x.needed(), 0);
        x = Due.points(2, 0, 0, 0, 4, 0);
        x.hold(1, 3);
        x.hold(2, 3);
        x.load(0, 0, 9);
        x.all();
        due("without either as dear, not dearer", x.needed(), 0);
        due("frame has one of them", x.frame(), 1);
    }

    private static void dearest() {
        of("DEAREST: of BARS that are NEEDED the one without which they are UNBORNE, of like ones the least");
        LeastFrames x = LeastEdges.lineAndPost();
        due("needed", x.needed(), 17);
        due("without 4 they are UNBORNE, without 0 dearer", x.dearest(), 4);
        x.bar(1);
        due("without either they are UNBORNE", x.dearest(), 0);
        of("if there is none, the one without which LEAST is greatest, of like ones the least");
        due("of like ones the first", LeastEdges.twoLines(3, 3).dearest(), 1);
        due("the last is dearer", LeastEdges.twoLines(3, 4).dearest(), 4);
        due("the first is dearer", LeastEdges.twoLines(4, 3).dearest(), 1);
        due("one is needed alone", LeastEdges.twoLines(0, 1).dearest(), 4);
    }

    private static void gain() {
        of("GAIN of a PAIR that is no BAR: LEAST less what it were, were that one a BAR, too");
        LeastFrames x = LeastEdges.line();
        x.bar(1);
        due("from 9 to 3", x.gain(0, 0), x.gain(0, 1), 6, 1);
        due("no gain at all", x.gain(2, 0), x.gain(2, 1), 0, 1);
        x.load(0, 0, 0);
        due("nothing to save", x.gain(0, 0), x.gain(0, 1), 0, 1);
    }

    private static void grow() {
        of("To GROW: as long as some PAIR has a GAIN above 0, the one with the greatest, of like ones the least,"
            + " becomes a BAR");
        LeastFrames x = LeastEdges.tower(747, 3, 6, 0, 0, 2, 1, 0, 4, 4, 4, 1, 2);
        due("gain of 2", x.gain(2, 0), x.gain(2, 1), 141, 1);
        due("gain of 4, the greatest", x.gain(4, 0), x.gain(4, 1), 918, 5);
        due("gain of 8", x.gain(8, 0), x.gain(8, 1), 112, 1);
        due("4, then 2, and 8 saves nothing any more", x.grow(), 2);
        due("bars", LeastEdges.bars(x), 767);
        x = LeastEdges.tower(910, 2, 5, 1, 0, 0, 0, 4, 3, 2, 3, 0, 4);
        due("gain of 4", x.gain(4, 0), 76);
        due("gain of 6", x.gain(6, 0), 76);
        due("the least of like ones, then one more", x.grow(), 2);
        due("4 is one of them", x.pair(4, 3), 1);
        due("6 is not", x.pair(6, 3), 0);
        due("nothing saves now", x.grow(), 0);
        x = Due.points(2, 0, 0, 0, 4, 0);
        x.hold(1, 3);
        x.hold(2, 3);
        x.load(0, 0, 9);
        x.bar(1);
        due("a gain of 0 is none", x.grow(), 0);
    }

    private static void shifts() {
        of("SHIFTS of POINTS in x and y (-999 to 999 each; 0 at first) are twelfths");
        LeastFrames x = Due.points(0, 0, 1, 0);
        due("at first, in x", x.info(1, 5), 0);
        due("at first, in y", x.info(1, 6), 0);
        for (int v = -999; v <= 999; v += 333) {
            x.shift(1, 0, v);
            x.shift(1, 1, -v);
            due("in x", x.info(1, 5), v);
            due("in y", x.info(1, 6), -v);
        }
        due("one less", x.shift(1, 0, -1000), State.LEAST_INT);
        due("one more", x.shift(1, 1, 1000), State.LEAST_INT);
        due("in x it stays", x.info(1, 5), 999);
        due("in y it stays", x.info(1, 6), -999);
        x.shift(1, 0, 12);
        due("twelve are a whole one", x.stretch(0, 0), x.stretch(0, 1), 1, 1);
        x.shift(1, 0, 1);
        due("one is a twelfth", x.stretch(0, 0), x.stretch(0, 1), 1, 12);
    }

    private static void shiftsHeld() {
        of("in what a POINT is HELD its SHIFT counts as 0");
        int[] stretch = {12, 7, 5, 0};
        for (int p = 0; p < 2; p++) {
            for (int bits = 0; bits <= 3; bits++) {
                LeastFrames x = Due.points(0, 0, 1, 1);
                x.shift(p, 0, p == 0 ? -60 : 60);
                x.shift(p, 1, p == 0 ? -84 : 84);
                x.hold(p, bits);
                due("stretch, held by " + bits, x.stretch(0, 0), x.stretch(0, 1), stretch[bits], 1);
                x.load(p, 0, 1);
                x.load(p, 1, 1);
                long work = p == 0 ? -stretch[bits] : stretch[bits];
                due("work, held by " + bits, x.work(0), x.work(1), work, 1);
                x.all();
                due("bounded, held by " + bits, x.proves() > 0 ? 1 : 0, stretch[bits] > 2 ? 0 : 1);
            }
        }
    }

    private static void stretch() {
        of("STRETCH of a PAIR i, j: SHIFT in x of j less that of i, times x of j less x of i, and the same in y,"
            + " together");
        int[] places = {0, 0, 4, 4, 4, 0, 1, 3, 2, 2};
        LeastFrames x = Due.points(places);
        int[] shifts = {-999, -999, 999, 999, 0, 1, 500, -7, -1, 0};
        for (int way = 0; way < 10; way++) {
            x.shift(way / 2, way % 2, shifts[way]);
        }
        for (int k = 0; k < 10; k++) {
            int i = x.pair(k, 0), j = x.pair(k, 1), sum = 0;
            for (int axis = 0; axis < 2; axis++) {
                int apart = shifts[2 * j + axis] - shifts[2 * i + axis];
                sum += apart * (places[2 * j + axis] - places[2 * i + axis]);
            }
            Fraction due = Fraction.of(sum, 12);
            due("of pair " + k, x.stretch(k, 0), x.stretch(k, 1), due.part(0), due.part(1));
        }
        due("the greatest", x.stretch(0, 0), x.stretch(0, 1), 1332, 1);
        for (int way = 0; way < 4; way++) {
            x.shift(way / 2, way % 2, -shifts[way]);
        }
        due("the least", x.stretch(0, 0), x.stretch(0, 1), -1332, 1);
    }

    private static void bounded() {
        of("BOUNDED: of no BAR STRETCH, without its sign, is more than QUAD");
        LeastFrames x = Due.points(0, 0, 4, 0, 2, 3);
        x.shift(1, 0, 48);
        due("no bars", x.proves(), 2);
        x.bar(0);
        due("as much as QUAD", x.proves(), 2);
        x.shift(1, 0, 49);
        due("a twelfth of 4 more", x.proves(), 0);
        x.shift(1, 0, -48);
        due("as much below 0", x.proves(), 2);
        x.shift(1, 0, -49);
        due("a twelfth of 4 less", x.proves(), 0);
        x.bar(0);
        x.bar(1);
        due("a pair that is no bar does not count", x.proves(), 2);
        x = Due.points(0, 0, 1, 0);
        x.all();
        x.shift(1, 0, 12);
        due("as much as a QUAD of 1", x.proves(), 2);
        x.shift(1, 0, 13);
        due("one twelfth more", x.proves(), 0);
    }

    private static void work() {
        of("WORK: of all WAYS LOAD times SHIFT, together");
        LeastFrames x = Due.points(0, 0, 1, 0, 2, 0, 3, 0, 4, 0);
        due("nothing", x.work(0), x.work(1), 0, 1);
        for (int way = 0; way < 10; way++) {
            x.load(way / 2, way % 2, 9);
            x.shift(way / 2, way % 2, 999);
        }
        due("the greatest", x.work(0), x.work(1), 14985, 2);
        for (int way = 0; way < 10; way++) {
            x.load(way / 2, way % 2, -9);
        }
        due("the least", x.work(0), x.work(1), -14985, 2);
        x.hold(4, 2);
        due("one way less", x.work(0), x.work(1), -26973, 4);
    }

    private static void cross() {
        String words = "Two BARS of FRAME CROSS, if they have no POINT in common, do not lie along each other, and meet"
            + " at a place that is within both, no POINT of either";
        of(words);
        due("within both", ShiftEdges.twoBars(0, 0, 4, 4, 0, 4, 4, 0).count(6), 1);
        due("the greater one is not of FRAME", ShiftEdges.oneLoaded(0, 0, 4, 4, 0, 4, 4, 0).count(6), 0);
        LeastFrames x = ShiftEdges.twoBars(0, 0, 4, 4, 0, 4, 4, 0);
        x.load(1, 0, 0);
        x.load(1, 1, 0);
        due("the lesser one is not of FRAME", x.count(6), 0);
        x = Due.bracket();
        x.all();
        due("a POINT in common", x.count(6), 0);
        due("along each other, apart", ShiftEdges.twoBars(0, 0, 1, 0, 3, 0, 4, 0).count(6), 0);
        due("along each other, overlapping", ShiftEdges.twoBars(0, 0, 3, 0, 1, 0, 4, 0).count(6), 0);
        due("along each other, one within", ShiftEdges.twoBars(0, 0, 4, 0, 1, 0, 3, 0).count(6), 0);
        due("side by side", ShiftEdges.twoBars(0, 0, 4, 0, 0, 1, 4, 1).count(6), 0);
        due("a POINT of the second", ShiftEdges.twoBars(0, 0, 4, 0, 2, 0, 2, 4).count(6), 0);
        due("a POINT of the first", ShiftEdges.twoBars(2, 0, 2, 4, 0, 0, 4, 0).count(6), 0);
        due("just beside a POINT", ShiftEdges.twoBars(0, 0, 4, 0, 1, 1, 2, 4).count(6), 0);
        due("beyond the first one's end", ShiftEdges.twoBars(0, 0, 1, 0, 2, 1, 4, 0).count(6), 0);
    }

    private static void crossOrder() {
        of("by the lesser one, then by the greater one");
        LeastFrames x = State.FULL.make();
        due("five times", x.count(6), 5);
        int before = -1;
        for (int c = 0; c < 5; c++) {
            int now = 10 * x.cross(c, 0) + x.cross(c, 1);
            due("crossing " + c + " comes behind the one before", now > before ? 1 : 0, 1);
            due("the lesser one is less", x.cross(c, 0) < x.cross(c, 1) ? 1 : 0, 1);
            before = now;
        }
    }

    /** The order at each act is held to at each promise; here, that of the words themselves. */
    private static void order() {
        of("Refusals, the first that fits, in the order told at each act: BAD -2 (a number not as told, no such"
            + " thing), NULL, NOT -3 (as told), FULL -4, other FINDINGS");
        due("BAD", BAD, -2);
        due("NOT", NOT, -3);
        due("FULL", LeastFrames.FULL, -4);
        due("NONE", NONE, -1);
        State.FULL.refused("point(5, 2): BAD, FULL", x -> x.point(5, 2), BAD);
        State.FULL.refused("point(2, 2): NOT, FULL", x -> x.point(2, 2), NOT);
        State.UNBORNE.refused("write(4): BAD, NOT", x -> x.write(4), BAD);
        State.UNBORNE.refused("write(3): NULL, NOT", x -> x.write(3), State.NULL);
        State.FULL.refused("sheet(0, 2, -1): BAD, SIZE", x -> x.sheet(0, 2, -1), BAD);
        State.FULL.refused("put(3, 0, -1, 0): NULL, INDEX", x -> x.put(3, 0, -1, 0), State.NULL);
    }

    private static void changeNothing() {
        of("They change nothing (FINDINGS but count() 8)");
        State.FULL.refused("all sorts of refusals, BAD last", x -> {
            x.point(1, 1);
            x.hold(0, 4);
            x.load(0, 0, 10);
            x.bar(10);
            x.would(0, 0, 10, 0);
            x.shift(0, 0, 1000);
            x.sheet(0, 0, 41);
            x.copy(0, 0, 4, 0, 1);
            return x.put(4, 0, 0, 0);
        }, BAD);
        State.FULL.refused("all FINDINGS, STORE last", x -> {
            x.lose(3);
            x.put(0, 0, 40, 1);
            x.put(0, 1, 0, 1);
            x.sheet(0, 0, -1);
            x.put(1, 1, 0, 2097152);
            return x.copy(0, 0, 1, 0, 40);
        }, State.STORE);
        State.UNBORNE.refused("all that needs loads borne", x -> {
            x.least(0);
            x.frame();
            x.pull(0, 0);
            x.without(0, 0);
            x.needed();
            x.dearest();
            x.gain(4, 0);
            x.grow();
            x.prune();
            x.cross(0, 0);
            x.write(2);
            return x.would(1, 0, 4, 0);
        }, State.asLong(NOT));
    }

    private static void asLongs() {
        of("Where the answer is a long, a refusal -x is the least long and x more");
        long bad = Long.MIN_VALUE + 2, not = Long.MIN_VALUE + 3;
        LeastFrames x = State.UNBORNE.make();
        due("least, BAD", x.least(2), bad);
        due("least, NOT", x.least(0), not);
        due("pull, BAD", x.pull(10, 0), bad);
        due("pull, NOT", x.pull(0, 0), not);
        due("without, BAD", x.without(4, 0), bad);
        due("without, NOT", x.without(0, 0), not);
        due("gain, BAD", x.gain(0, 0), bad);
        due("gain, NOT", x.gain(4, 0), not);
        due("would, BAD", x.would(5, 0, 0, 0), bad);
        due("would, NOT", x.would(0, 0, 1, 0), not);
        due("stretch, BAD", x.stretch(10, 0), bad);
        due("work, BAD", x.work(2), bad);
        due("get, BAD", x.get(4, 0), bad);
        due("get, NULL", x.get(3, 0), Long.MIN_VALUE + 11);
        due("get, INDEX", x.get(2, 12), Long.MIN_VALUE + 12);
    }
}
