import java.lang.management.ManagementFactory;
import java.util.Random;

/**
 * All calls of one run live in one room of some 600,000 objects and 7.3 million elements. Bytes are what can be
 * counted here: an element has one at least, an object sixteen.
 */
public final class RoomTest {
    private static final com.sun.management.ThreadMXBean THREADS =
            (com.sun.management.ThreadMXBean) ManagementFactory.getThreadMXBean();
    private static final int CALLS = 512;
    private static final int ELEMENTS = 7_300_000;
    /** A call's part of the room, if all its elements are ints. */
    private static final long CALL_BYTES = 4L * ELEMENTS / CALLS;

    public static void main(String[] args) {
        keeps("a new object", () -> new LoopForge().count(2));
        LoopForge forge = new LoopForge();
        String text = Texts.chain(new Random(3));
        Check.read(forge, text);
        forge.lay();
        forge.run(true);
        keeps("count", () -> forge.count(3));
        keeps("set, count", () -> forge.set(8, 17) + forge.count(5));
        keeps("set, lay", () -> forge.set(8, 18) + forge.lay());
        keeps("run", () -> forge.run(true));
        keeps("text", forge::text);
        long run = bytes(RoomTest::fullRun);
        Check.same("a run of 512 calls makes " + run + " bytes", run < ELEMENTS, true);
        Check.ends();
    }

    /** Full loops with the most WAITS and cycles taken back, laid anew with each setting, and run. */
    private static int fullRun() {
        LoopForge forge = new LoopForge();
        int calls = 0;
        for (int k = 0; calls < CALLS - 20; k++) {
            if (k % 20 == 0) {
                calls += feedRows(forge, k % 40 == 0 ? "a[0]=i " : "b[1*i]=1 ");
            }
            forge.set(8, 1 + k % 64);
            forge.count(3);
            forge.lay();
            forge.run(k % 2 == 0);
            calls += 4;
        }
        return calls;
    }

    /** 48 ROWS; answers with the calls that they took. */
    private static int feedRows(LoopForge forge, String row) {
        String text = row.repeat(48);
        Check.read(forge, text);
        return text.length() / 20 + 3;
    }

    private static void keeps(String what, Check.Call call) {
        // The least of some, for the machine itself makes things now and then.
        long least = Long.MAX_VALUE;
        for (int k = 0; k < 20; k++) {
            least = Math.min(least, bytes(call));
        }
        Check.same(what + " makes " + least + " bytes", least < CALL_BYTES, true);
    }

    private static long bytes(Check.Call call) {
        long before = THREADS.getThreadAllocatedBytes(Thread.currentThread().getId());
        call.answer();
        return THREADS.getThreadAllocatedBytes(Thread.currentThread().getId()) - before;
    }
}
