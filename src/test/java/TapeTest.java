/** Promises 2 and 3: feed and end. */
public final class TapeTest {
    public static void main(String[] args) {
        bytesComeHighestFirst();
        tapeHasItsLimit();
        endKeepsTheFirst();
        Check.ends();
    }

    private static void bytesComeHighestFirst() {
        LoopForge forge = new LoopForge();
        // "r1 =" " i +" " r2 " "    " and five bytes that end() takes away again
        Check.due("feed", () -> forge.feed(0x7231203D, 0x2069202B, 0x20723220, 0x20202020, 0xFFFF80FF), 20);
        Check.due("end", () -> forge.end(16), 16);
        Check.due("text", forge::text, -1);
        Check.due("rows", () -> forge.count(0), 1);
        Check.due("begin", () -> forge.begin(2, 40), 0);
        forge.run(false);
        Check.due("register", () -> forge.register(1), 55);
    }

    private static void tapeHasItsLimit() {
        LoopForge forge = new LoopForge();
        for (int k = 1; k <= 204; k++) {
            int due = 20 * k;
            Check.due("feed", () -> forge.feed(0, 0, 0, 0, 0), due);
        }
        Check.bounds("feed above 4096", () -> forge.feed(0, 0, 0, 0, 0));
        Check.due("bytes", () -> forge.count(2), 4080);
        Check.due("end", () -> forge.end(4077), 4077);
        Check.bounds("feed to 4097", () -> forge.feed(0, 0, 0, 0, 0));
        Check.due("end", () -> forge.end(4076), 4076);
        Check.due("feed to 4096", () -> forge.feed(0, 0, 0, 0, 0), 4096);
        Check.due("bytes", () -> forge.count(2), 4096);
        Check.bounds("feed to a full tape", () -> forge.feed(0, 0, 0, 0, 0));
        Check.due("end", () -> forge.end(4096), 4096);
        Check.due("text", forge::text, 0);
        Check.due("bytes", () -> forge.count(2), 0);
    }

    private static void endKeepsTheFirst() {
        LoopForge forge = new LoopForge();
        Check.due("end of nothing", () -> forge.end(0), 0);
        Check.argument("end", () -> forge.end(1));
        forge.feed(1, 2, 3, 4, 5);
        Check.argument("end below 0", () -> forge.end(-1));
        Check.argument("end above", () -> forge.end(21));
        Check.argument("end far above", () -> forge.end(Integer.MAX_VALUE));
        Check.argument("end far below", () -> forge.end(Integer.MIN_VALUE));
        Check.due("bytes", () -> forge.count(2), 20);
        Check.due("end", () -> forge.end(20), 20);
        Check.due("end", () -> forge.end(7), 7);
        Check.argument("end", () -> forge.end(8));
        Check.due("feed", () -> forge.feed(1, 2, 3, 4, 5), 27);
    }
}
