import java.util.Random;

/** FRAME against the document's own words: the first set of bars, as bits, that bears with LEAST. */
public final class FrameTrialTest {
    public static void main(String[] args) {
        Random random = new Random(11);
        int tried = 0;
        for (int i = 0; i < 4000 && tried < 120; i++) {
            tried += tryOne(random) ? 1 : 0;
        }
        Due.due("frames tried", tried, 120);
        Due.end();
    }

    /** Loads are small multiples along few lines, so that sets of like volume are common. */
    private static boolean tryOne(Random random) {
        LeastFrames x = new LeastFrames();
        Reference y = new Reference();
        int size = 2 + random.nextInt(3);
        int n = 3 + random.nextInt(3);
        for (int i = 0; i < 60 && y.count(0) < n; i++) {
            int a = random.nextInt(size), b = random.nextInt(size);
            x.point(a, b);
            y.point(a, b);
        }
        for (int p = 0; p < n; p++) {
            int bits = random.nextInt(2) * 3;
            x.hold(p, bits);
            y.hold(p, bits);
            for (int axis = 0; axis < 2; axis++) {
                int v = random.nextInt(3) - 1;
                x.load(p, axis, v);
                y.load(p, axis, v);
            }
        }
        x.all();
        y.all();
        if (y.leastOf(0) != null || y.count(5) == 0) {
            return false;
        }
        Due.due("frame of " + n + " points", x.frame(), y.frameByTrial());
        return true;
    }
}
