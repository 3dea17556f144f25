/** Promise 1: a new object. */
public final class Promise01NewObjectTest {
    public static void main(String[] args) {
        noLoop();
        noTape();
        rounds16();
        times1341();
        units211();
        width4();
        beginGives0();
        objectsAreApart();
        is512CallsLong();
        Check.ends();
    }

    private static void noLoop() {
        for (int k = 0; k <= 11; k++) {
            int what = k;
            Check.due("count " + what, () -> new LoopForge().count(what), 0);
        }
        Check.bounds("delay", () -> new LoopForge().delay(0, 0, 0));
        Check.state("lay", () -> new LoopForge().lay());
        Check.state("row", () -> new LoopForge().row(0, 0));
        Check.state("run as written", () -> new LoopForge().run(false));
        Check.state("run as laid", () -> new LoopForge().run(true));
        Check.state("register", () -> new LoopForge().register(0));
        Check.state("cell", () -> new LoopForge().cell(0, 0));
    }

    private static void noTape() {
        LoopForge forge = new LoopForge();
        Check.argument("end(1)", () -> forge.end(1));
        Check.due("end(0)", () -> forge.end(0), 0);
        Check.due("the first feed", () -> forge.feed(0, 0, 0, 0, 0), 20);
        Check.due("text of nothing", () -> new LoopForge().text(), 0);
    }

    private static void rounds16() {
        LoopForge forge = Check.of("r0 = i + 0 a[1*i] = 1 r1 = a[1*i-15] b[1*i] = 1 r2 = b[1*i-16]");
        Check.due("steps", () -> forge.run(false), 80);
        Check.due("the last i", () -> forge.register(0), 15);
        Check.due("over 15", () -> forge.delay(1, 2, 15), 1);
        Check.none("over 16", () -> forge.delay(3, 4, 16));
        Check.due("set", () -> forge.set(8, 1), 16);
    }

    private static void times1341() {
        LoopForge forge = Check.of("r0 = r0 - 1 r1 = r1 * 1 r2 = a[3] r3 = max(r2 1) b[3] = 1 r4 = b[3]");
        Check.due("reckoning", () -> forge.delay(0, 0, 1), 1);
        Check.due("*", () -> forge.delay(1, 1, 1), 3);
        Check.due("take", () -> forge.delay(2, 3, 0), 4);
        Check.due("set of an array", () -> forge.delay(4, 5, 0), 1);
        int[] times = {1, 3, 4, 1};
        for (int k = 0; k < 4; k++) {
            int what = k;
            Check.due("set " + what, () -> forge.set(what, 1), times[what]);
        }
    }

    private static void units211() {
        leastByUnits("r0=1+1 r1=1+1", 1);
        leastByUnits("r0=1+1 r1=1+1 r2=1+1", 2);
        leastByUnits("r0=1+1 r1=1*1", 1);
        leastByUnits("a[1]=1", 1);
        leastByUnits("a[1]=1 r0=b[1]", 2);
        leastByUnits("r0=1*1 r1=1*1", 2);
        int[] units = {2, 1, 1};
        for (int k = 0; k < 3; k++) {
            int what = k;
            Check.due("set " + what, () -> new LoopForge().set(4 + what, 1), units[what]);
        }
    }

    private static void leastByUnits(String text, int due) {
        LoopForge forge = Check.of(text);
        Check.due("least by units of " + text, () -> forge.count(4), due);
    }

    private static void width4() {
        LoopForge full = Check.of("r0=1+1 r1=1+1 r2=1+1 r3=1+1");
        full.set(4, 8);
        Check.due("least by units of 4", () -> full.count(4), 1);
        LoopForge above = Check.of("r0=1+1 r1=1+1 r2=1+1 r3=1+1 r4=1+1");
        above.set(4, 8);
        Check.due("least by units of 5", () -> above.count(4), 2);
        Check.due("set 7", () -> above.set(7, 1), 4);
    }

    private static void beginGives0() {
        LoopForge forge = Check.of("a[0] = r31");
        forge.run(false);
        for (int k = 0; k < 32; k++) {
            int r = k;
            Check.due("register " + r, () -> forge.register(r), 0);
        }
        Check.due("a used one", () -> forge.cell(0, 512), 0);
        for (int k = 0; k < 32; k++) {
            int r = k;
            Check.due("begin " + r, () -> forge.begin(r, 1), 0);
        }
    }

    private static void objectsAreApart() {
        LoopForge used = States.RUN_AS_LAID.make();
        for (int k = 0; k < 9; k++) {
            used.set(k, 1);
        }
        for (int r = 0; r < 32; r++) {
            used.begin(r, 1 + r);
        }
        LoopForge forge = new LoopForge();
        Check.due("rows", () -> forge.count(0), 0);
        Check.due("bytes", () -> forge.count(2), 0);
        int[] first = {1, 3, 4, 1, 2, 1, 1, 4, 16};
        for (int k = 0; k < 9; k++) {
            int what = k;
            Check.due("set " + what, () -> forge.set(what, 1), first[what]);
        }
        for (int k = 0; k < 32; k++) {
            int r = k;
            Check.due("begin " + r, () -> forge.begin(r, 1), 0);
        }
    }

    /** Not one of the promises, but what they all rest on: the last call is answered as the first. */
    private static void is512CallsLong() {
        LoopForge forge = new LoopForge();
        int calls = 0;
        while (calls < 508) {
            forge.feed(0x72303D72, 0x302A333B, 0, 0, 0);
            forge.text();
            forge.lay();
            forge.run(true);
            calls += 4;
        }
        Check.due("call 509", () -> forge.set(8, 2), 16);
        Check.due("call 510", () -> forge.lay(), 3);
        Check.due("call 511", () -> forge.run(true), 6);
        Check.due("call 512", () -> forge.register(0), 0);
    }
}
