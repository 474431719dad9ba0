/** Compares answers with those that are due, and ends a test with exit code 1 if one was not. */
final class Due {
    static final int LEAST_INT = Integer.MIN_VALUE;
    /** Refusals where the answer is a long. */
    static final long BAD = Long.MIN_VALUE + 2, NOT = Long.MIN_VALUE + 3;
    static final long NULL = Long.MIN_VALUE + 11, INDEX = Long.MIN_VALUE + 12;
    private static int wrong = 0;
    private static int asked = 0;

    private Due() { }

    static void due(String call, long got, long want) {
        asked++;
        if (got != want) {
            wrong++;
            System.out.println(call + " answered " + got + ", due is " + want);
        }
    }

    static void end() {
        System.out.println(asked + " answers, " + wrong + " not as due");
        if (wrong != 0) {
            System.exit(1);
        }
    }

    /** Points by x and y in turn. */
    static LeastFrames points(int... places) {
        LeastFrames x = new LeastFrames();
        for (int i = 0; i + 1 < places.length; i += 2) {
            x.point(places[i], places[i + 1]);
        }
        return x;
    }

    /** A wall bracket: points 0 and 1 are held, 2 hangs out and bears 6 down; no bars yet. */
    static LeastFrames bracket() {
        LeastFrames x = points(0, 0, 0, 3, 4, 0);
        x.hold(0, 3);
        x.hold(1, 3);
        x.load(2, 1, -6);
        return x;
    }

}
