import java.util.Random;

/** Long runs of calls, sensible and senseless, on LeastFrames and on the reference: they must agree. */
public final class RandomRunsTest {
    private static int wrong = 0;
    private static long calls = 0;
    private static final int[] borne = new int[2];
    private static int crossed = 0, provedLeast = 0, grew = 0, fractions = 0, optional = 0;
    private final Random random;
    private final LeastFrames x = new LeastFrames();
    private final Reference y = new Reference();
    private final int run;

    private RandomRunsTest(int run) {
        this.run = run;
        random = new Random(run * 7919L + 5);
    }

    private void same(String call, long got, long due) {
        calls++;
        if (got != due && wrong++ < 20) {
            System.out.println("run " + run + ": " + call + " answered " + got + ", due is " + due);
        }
    }

    private int any(int from, int to) { return from + random.nextInt(to - from + 1); }

    /** Mostly within the bounds, now and then just or far outside of them. */
    private int near(int from, int to) {
        int r = random.nextInt(40);
        if (r == 0) return from - 1;
        if (r == 1) return to + 1;
        if (r == 2) return random.nextInt();
        if (r == 3) return random.nextBoolean() ? Integer.MIN_VALUE : Integer.MAX_VALUE;
        return any(from, to);
    }

    private void build() {
        int n = random.nextInt(4) > 0 ? any(4, 5) : any(0, 3);
        for (int i = 0; i < n; i++) point();
        for (int i = 0; i < n; i++) {
            int kind = random.nextInt(8);
            hold(i, kind < 3 ? 3 : kind < 6 ? 0 : any(0, 3));
        }
        for (int i = 0; i < 4 && n > 0; i++) load(any(0, n - 1), any(0, 1), any(-9, 9));
        if (random.nextInt(4) > 0) same("all", x.all(), y.all());
        int toggles = any(0, 5);
        for (int i = 0; i < toggles; i++) { int k = any(0, 9); same("bar", x.bar(k), y.bar(k)); }
    }

    private void price() {
        int[] shifts = y.likelyPrices();
        if (shifts == null) return;
        for (int way = 0; way < shifts.length; way++) {
            same("shift", x.shift(way / 2, way % 2, shifts[way]), y.shift(way / 2, way % 2, shifts[way]));
        }
        same("proves", x.proves(), y.proves());
    }

    private void point() {
        int a = near(0, 4), b = near(0, 4);
        same("point " + a + " " + b, x.point(a, b), y.point(a, b));
    }

    private void hold(int p, int bits) { same("hold " + p + " " + bits, x.hold(p, bits), y.hold(p, bits)); }

    private void load(int p, int axis, int v) { same("load " + p, x.load(p, axis, v), y.load(p, axis, v)); }

    private void step() {
        int k = near(0, 9), p = near(0, 4), axis = near(0, 1), what = near(0, 1), s = near(0, 3);
        switch (random.nextInt(45)) {
            case 0: if (random.nextInt(3) == 0) same("back", x.back(), y.back()); break;
            case 1: point(); break;
            case 2: hold(p, near(0, 3)); break;
            case 3: case 4: load(p, axis, near(-9, 9)); break;
            case 5: case 6: same("bar " + k, x.bar(k), y.bar(k)); break;
            case 7: same("all", x.all(), y.all()); break;
            case 8: same("read", x.read(s), y.read(s)); break;
            case 9: { int w = near(0, 6); same("info", x.info(p, w), y.info(p, w)); break; }
            case 10: { int w = near(0, 3); same("pair", x.pair(k, w), y.pair(k, w)); break; }
            case 11: same("least", x.least(what), y.least(what)); break;
            case 12: same("fault", x.fault(), y.fault()); break;
            case 13: same("frame", x.frame(), y.frame()); break;
            case 14: case 15: same("pull", x.pull(k, what), y.pull(k, what)); break;
            case 16: same("without", x.without(k, what), y.without(k, what)); break;
            case 17: same("why", x.why(k), y.why(k)); break;
            case 18: same("needed", x.needed(), y.needed()); break;
            case 19: same("dearest", x.dearest(), y.dearest()); break;
            case 20: same("gain", x.gain(k, what), y.gain(k, what)); break;
            case 21: { int g = y.grow(); same("grow", x.grow(), g); if (g > 0) grew++; break; }
            case 22: if (random.nextInt(2) == 0) same("prune", x.prune(), y.prune()); break;
            case 23: case 24: { int v = near(-9, 9);
                same("would", x.would(p, axis, v, what), y.would(p, axis, v, what)); break; }
            case 25: case 26: { int v = random.nextInt(3) == 0 ? near(-999, 999) : any(-60, 60);
                same("shift", x.shift(p, axis, v), y.shift(p, axis, v)); break; }
            case 27: same("stretch", x.stretch(k, what), y.stretch(k, what)); break;
            case 28: same("work", x.work(what), y.work(what)); break;
            case 29: same("proves", x.proves(), y.proves()); break;
            case 30: { int c = near(0, 2), w = near(0, 5); same("cross", x.cross(c, w), y.cross(c, w)); break; }
            case 31: { int f = near(0, 1), n = near(0, 40); same("sheet", x.sheet(s, f, n), y.sheet(s, f, n)); break; }
            case 32: if (random.nextInt(3) == 0) same("lose", x.lose(s), y.lose(s)); break;
            case 33: case 34: case 35: { int f = near(0, 1), i = any(-1, 12), v = random.nextInt(4) == 0 ? near(-2097152, 2097151) : any(-9, 9);
                same("put", x.put(s, f, i, v), y.put(s, f, i, v)); break; }
            case 36: { int i = near(0, 20); same("get", x.get(s, i), y.get(s, i)); break; }
            case 37: { int i = near(0, 20), t = near(0, 3), j = near(0, 20), n = near(0, 12);
                same("copy", x.copy(s, i, t, j, n), y.copy(s, i, t, j, n)); break; }
            case 38: case 39: same("write", x.write(s), y.write(s)); break;
            case 40: { int w = near(0, 8); same("count " + w, x.count(w), y.count(w)); break; }
            case 41: case 42: price(); break;
            default: whole();
        }
    }

    private void whole() {
        same("digest", x.digest(), y.digest());
        borne[y.count(5)]++;
        crossed += y.count(6) > 0 ? 1 : 0;
        provedLeast += y.count(7) == 2 && y.least(0) > 0 ? 1 : 0;
        fractions += y.least(1) > 1 ? 1 : 0;
        optional += y.count(3) > y.count(4) ? 1 : 0;
    }

    private void go(int steps) {
        build();
        whole();
        price();
        whole();
        for (int i = 0; i < steps; i++) step();
        whole();
        for (int s = 0; s < 4; s++) {
            for (int i = 0; i < 41; i++) same("get", x.get(s, i), y.get(s, i));
        }
        same("count 8", x.count(8), y.count(8));
    }

    public static void main(String[] args) {
        int runs = args.length > 0 ? Integer.parseInt(args[0]) : 300;
        for (int run = 0; run < runs; run++) {
            new RandomRunsTest(run).go(100);
        }
        System.out.println(calls + " calls, borne " + borne[1] + ", unborne " + borne[0] + ", crossed " + crossed
            + ", proved " + provedLeast + ", grew " + grew + ", fractions " + fractions + ", not all needed " + optional);
        if (wrong > 0) {
            System.out.println(wrong + " answers differ");
            System.exit(1);
        }
    }
}
