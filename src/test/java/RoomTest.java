import java.lang.management.ManagementFactory;
import java.util.Random;

/** All calls of one run live in one room, so that no call may make much. */
public final class RoomTest {
    private static final com.sun.management.ThreadMXBean THREADS =
            (com.sun.management.ThreadMXBean) ManagementFactory.getThreadMXBean();

    public static void main(String[] args) {
        // Were each of 512 calls a new object, each could have some 14,000 elements: 4,096 bytes, the others ints.
        long perNew = made(() -> new LoopForge().count(2));
        Check.same("a new object makes " + perNew + " bytes", perNew < 40_000, true);
        LoopForge forge = new LoopForge();
        String text = Texts.chain(new Random(3));
        Check.read(forge, text);
        forge.lay();
        forge.run(true);
        stays("count", () -> forge.count(3));
        stays("set, count", () -> forge.set(8, 17) + forge.count(5));
        stays("set, lay", () -> forge.set(8, 18) + forge.lay());
        stays("run", () -> forge.run(true));
        stays("text", forge::text);
        Check.ends();
    }

    private static void stays(String what, Check.Call call) {
        long bytes = made(call);
        Check.same(what + " makes " + bytes + " bytes", bytes < 1_000, true);
    }

    /** The least of some, for the machine itself makes things now and then. */
    private static long made(Check.Call call) {
        long least = Long.MAX_VALUE;
        for (int k = 0; k < 20; k++) {
            long before = THREADS.getThreadAllocatedBytes(Thread.currentThread().getId());
            call.answer();
            least = Math.min(least, THREADS.getThreadAllocatedBytes(Thread.currentThread().getId()) - before);
        }
        return least;
    }
}
