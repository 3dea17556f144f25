/** Promise 3: end. */
public final class Promise03EndTest {
    public static void main(String[] args) {
        takes0ToItsLength();
        anEmptyTape();
        aFullTape();
        keepsTheFirst();
        whatIsGoneStaysGone();
        refusedChangesNothing();
        leavesTheRest();
        Check.ends();
    }

    private static LoopForge fed() {
        LoopForge forge = new LoopForge();
        forge.feed(0x20202020, 0x20202020, 0x20202020, 0x20202020, 0x20202020);
        return forge;
    }

    private static void takes0ToItsLength() {
        for (int k = 0; k <= 20; k++) {
            int n = k;
            LoopForge forge = fed();
            Check.due("end(" + n + ")", () -> forge.end(n), n);
            Check.due("bytes", () -> forge.count(2), n);
            Check.argument("one more", () -> forge.end(n + 1));
            Check.due("as many", () -> forge.end(n), n);
        }
        for (int k : new int[] {-1, -20, 21, 40, 4096, Integer.MAX_VALUE, Integer.MIN_VALUE}) {
            int n = k;
            LoopForge forge = fed();
            Check.argument("end(" + n + ")", () -> forge.end(n));
            Check.due("bytes", () -> forge.count(2), 20);
        }
    }

    private static void anEmptyTape() {
        LoopForge forge = new LoopForge();
        Check.argument("end(1)", () -> forge.end(1));
        Check.argument("end(-1)", () -> forge.end(-1));
        Check.due("end(0)", () -> forge.end(0), 0);
        Check.due("bytes", () -> forge.count(2), 0);
        LoopForge read = fed();
        read.text();
        Check.argument("end(1) behind a text", () -> read.end(1));
        Check.due("end(0) behind a text", () -> read.end(0), 0);
    }

    private static void aFullTape() {
        LoopForge forge = new LoopForge();
        for (int k = 0; k < 204; k++) {
            forge.feed(0x20202020, 0x20202020, 0x20202020, 0x20202020, 0x20202020);
        }
        forge.end(4076);
        forge.feed(0x20202020, 0x20202020, 0x20202020, 0x20202020, 0x20202020);
        Check.argument("end(4097)", () -> forge.end(4097));
        Check.due("end(4096)", () -> forge.end(4096), 4096);
        Check.due("end(4095)", () -> forge.end(4095), 4095);
        Check.argument("end(4096)", () -> forge.end(4096));
        Check.due("text", forge::text, 4095);
    }

    private static void keepsTheFirst() {
        // Of "r0 = i + 123456789" so many digits: what is behind them is no part of the number.
        int[] due = {16, 27, 138};
        for (int k = 0; k < 3; k++) {
            LoopForge forge = new LoopForge();
            Check.feed(forge, "r0 = i + 123456789");
            int digits = k + 1;
            Check.due("end", () -> forge.end(9 + digits), 9 + digits);
            Check.due("text", forge::text, -1);
            forge.run(false);
            Check.due("register", () -> forge.register(0), due[k]);
        }
        LoopForge none = new LoopForge();
        Check.feed(none, "r0 = i + 123456789");
        none.end(0);
        Check.due("text of nothing", none::text, 0);
        LoopForge one = new LoopForge();
        Check.feed(one, "r0 = i + 123456789");
        one.end(1);
        Check.due("text of an r", one::text, 0);
        LoopForge two = new LoopForge();
        Check.feed(two, "r0 = i + 123456789");
        two.end(2);
        Check.due("text of r0", two::text, 2);
    }

    private static void whatIsGoneStaysGone() {
        LoopForge forge = new LoopForge();
        Check.feed(forge, "r0 = i + 1 ? ? ? ? ?");
        forge.end(10);
        forge.feed(0x20202020, 0x20202020, 0x20202020, 0x20202020, 0x20202020);
        Check.due("text", forge::text, -1);
    }

    private static void refusedChangesNothing() {
        int length = States.WAITING.length();
        for (int k : new int[] {-1, Integer.MIN_VALUE, length + 1, 4096, 4097, Integer.MAX_VALUE}) {
            int n = k;
            States.refusedArgument("end(" + n + ")", forge -> forge.end(n), States.values());
        }
    }

    private static void leavesTheRest() {
        States.leavesPlan("end(0)", forge -> forge.end(0));
        States.onlyTells("end of all", forge -> forge.end(forge.count(2)), States.values());
    }
}
