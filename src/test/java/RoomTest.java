import java.lang.management.ManagementFactory;
import java.util.Random;

/** All calls of a run live in one room: objects are made small, and no call makes anything. */
public final class RoomTest {
    private static final com.sun.management.ThreadMXBean THREADS =
        (com.sun.management.ThreadMXBean) ManagementFactory.getThreadMXBean();

    private static long made() {
        return THREADS.getThreadAllocatedBytes(Thread.currentThread().getId());
    }

    public static void main(String[] args) {
        long before = made();
        LeastFrames[] many = new LeastFrames[512];
        for (int i = 0; i < many.length; i++) {
            many[i] = new LeastFrames();
        }
        // 8 bytes an element at most: 512 objects stay far below 7.3 million elements.
        long one = (made() - before) / many.length;
        System.out.println(one + " bytes an object");
        Due.due("an object is small", one < 32 * 1024 ? 1 : 0, 1);
        Random random = new Random(4);
        LeastFrames x = many[0];
        calls(x, random);
        before = made();
        for (int i = 0; i < 512; i++) {
            calls(x, random);
        }
        Due.due("calls make nothing", (made() - before) / 512 < 16 ? 1 : 0, 1);
        Due.end();
    }

    private static long calls(LeastFrames x, Random random) {
        long sum = x.back();
        for (int i = 0; i < 5; i++) {
            sum += x.point(random.nextInt(5), random.nextInt(5));
            sum += x.hold(i, i < 2 ? 3 : 0);
            sum += x.load(i, i % 2, random.nextInt(19) - 9);
            sum += x.shift(i, i % 2, random.nextInt(99));
        }
        sum += x.all() + x.bar(random.nextInt(10)) + x.read(9) + x.info(0, 0) + x.pair(0, 0);
        sum += x.least(0) + x.fault() + x.frame() + x.pull(0, 0) + x.without(1, 0) + x.why(1);
        sum += x.needed() + x.dearest() + x.gain(0, 0) + x.would(2, 0, 3, 0) + x.stretch(0, 0) + x.work(0);
        sum += x.proves() + x.cross(0, 0) + x.sheet(0, random.nextInt(2), random.nextInt(41));
        sum += x.put(0, 0, 0, 3) + x.get(0, 0) + x.copy(0, 0, 0, 1, 2) + x.write(0) + x.count(4) + x.read(0);
        sum += x.digest() + x.grow() + x.prune() + x.lose(0);
        return sum;
    }
}
