/** What takes LAYING and RUN away, and that what throws changes nothing. */
public final class StateTest {
    private static final String LOOP = "r0 = r0 + 2 a[1*i] = r0";

    public static void main(String[] args) {
        setTakesBothAway();
        beginTakesTheRunAway();
        textTakesBothAway();
        layLeavesTheRun();
        whatThrowsChangesNothing();
        Check.ends();
    }

    private static LoopForge laidAndRun() {
        LoopForge forge = Check.of(LOOP);
        forge.lay();
        forge.run(true);
        return forge;
    }

    private static void stands(LoopForge forge, boolean laid, boolean run) {
        Check.due("distance", () -> forge.count(6), laid ? 1 : 0);
        Check.due("size", () -> forge.count(11), laid ? 1 : 0);
        Check.due("row", () -> forge.row(0, 0), laid ? 0 : "IllegalStateException");
        Check.due("register", () -> forge.register(0), run ? 32 : "IllegalStateException");
        Check.due("cell", () -> forge.cell(0, 512), run ? 2 : "IllegalStateException");
    }

    private static void setTakesBothAway() {
        for (int k = 0; k < 9; k++) {
            int what = k;
            LoopForge forge = laidAndRun();
            stands(forge, true, true);
            int was = forge.set(what, 1);
            stands(forge, false, false);
            Check.state("run laid", () -> forge.run(true));
            forge.set(what, was);
            forge.lay();
            stands(forge, true, false);
            // The same value takes them away, too.
            forge.run(false);
            stands(forge, true, true);
            forge.set(what, was);
            stands(forge, false, false);
        }
    }

    private static void beginTakesTheRunAway() {
        LoopForge forge = laidAndRun();
        forge.begin(5, 1);
        stands(forge, true, false);
        forge.run(true);
        stands(forge, true, true);
        forge.begin(5, 1);
        stands(forge, true, false);
    }

    private static void textTakesBothAway() {
        LoopForge forge = laidAndRun();
        Check.feed(forge, LOOP);
        stands(forge, true, true);
        Check.due("text", forge::text, -1);
        stands(forge, false, false);
        forge.lay();
        forge.run(false);
        stands(forge, true, true);
        Check.due("a wrong text", forge::text, 0);
        stands(forge, false, false);
        Check.state("run", () -> forge.run(false));
    }

    private static void layLeavesTheRun() {
        LoopForge forge = Check.of(LOOP);
        forge.run(false);
        stands(forge, false, true);
        Check.state("run laid", () -> forge.run(true));
        stands(forge, false, true);
        forge.lay();
        stands(forge, true, true);
    }

    private static void whatThrowsChangesNothing() {
        LoopForge forge = laidAndRun();
        Check.argument("set", () -> forge.set(0, 21));
        Check.argument("set", () -> forge.set(9, 1));
        Check.argument("begin", () -> forge.begin(32, 1));
        Check.argument("end", () -> forge.end(1));
        Check.argument("count", () -> forge.count(12));
        Check.bounds("delay", () -> forge.delay(0, 2, 0));
        Check.none("delay", () -> forge.delay(0, 1, 1));
        Check.bounds("row", () -> forge.row(2, 0));
        Check.argument("row", () -> forge.row(0, 5));
        Check.argument("register", () -> forge.register(32));
        Check.bounds("cell", () -> forge.cell(4, 0));
        stands(forge, true, true);
        for (int k = 0; k < 204; k++) {
            forge.feed(k, k, k, k, k);
        }
        Check.bounds("feed", () -> forge.feed(0, 0, 0, 0, 0));
        Check.due("bytes", () -> forge.count(2), 4080);
        stands(forge, true, true);
    }
}
