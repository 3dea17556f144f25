/** Promise 6: begin. */
public final class Promise06BeginTest {
    private static final int[] VALUES = {1, -1, Integer.MAX_VALUE, Integer.MIN_VALUE, 65536, 0};

    public static void main(String[] args) {
        tellsWhatItGave();
        refusesOtherRegisters();
        takesTheRunAway();
        leavesTheRest();
        // Each with objects of its own: what the one RUN left must not stand in for the other.
        for (boolean laid : new boolean[] {false, true}) {
            theFirstRoundUsesIt(laid);
            allIntsAreGiven(laid);
        }
        Check.ends();
    }

    private static void tellsWhatItGave() {
        LoopForge forge = new LoopForge();
        for (int k = 0; k < 32; k++) {
            int r = k;
            int before = 0;
            for (int v : VALUES) {
                Check.due("begin " + r, () -> forge.begin(r, v + r), before);
                before = v + r;
            }
        }
        // None has changed another.
        for (int k = 0; k < 32; k++) {
            int r = k;
            Check.due("begin " + r, () -> forge.begin(r, 0), r);
        }
    }

    private static void refusesOtherRegisters() {
        for (int k : new int[] {-1, 32, 33, 255, 256, -32, Integer.MIN_VALUE, Integer.MAX_VALUE}) {
            int r = k;
            for (int v : new int[] {0, 1}) {
                States.refusedArgument("begin " + r, forge -> forge.begin(r, v), States.values());
            }
        }
    }

    private static void theFirstRoundUsesIt(boolean laid) {
        // r0 uses what ROUND 0 has from BEGIN, then what ROW 1 set; ROW 2 never sees what BEGIN gives for r1.
        LoopForge forge = Check.of("r0 = r0 + r1 r1 = i + 100 r2 = r1 + r9");
        forge.set(8, 3);
        forge.begin(0, 7);
        forge.begin(1, 1000);
        forge.begin(2, 5555);
        forge.begin(9, 40);
        forge.lay();
        forge.run(laid);
        Check.due("r0", () -> forge.register(0), 7 + 1000 + 100 + 101);
        Check.due("r1", () -> forge.register(1), 102);
        Check.due("r2", () -> forge.register(2), 142);
        Check.due("r9, which no row sets", () -> forge.register(9), 40);
    }

    private static void allIntsAreGiven(boolean laid) {
        for (int k = 0; k < 32; k++) {
            int r = k;
            int target = (r + 1) % 32;
            LoopForge forge = Check.of("r" + target + " = r" + r + " + 0 a[0] = r" + r);
            forge.lay();
            for (int v : VALUES) {
                forge.begin(r, v);
                forge.run(laid);
                Check.due("what uses r" + r, () -> forge.register(target), v);
                Check.due("r" + r, () -> forge.register(r), v);
                Check.due("the int that it sets", () -> forge.cell(0, 512), v);
            }
        }
    }

    private static void takesTheRunAway() {
        for (States state : States.WITH_RUN) {
            // A register that is used, one that a ROW sets, one that is in none; another value, and the same.
            for (int k : new int[] {3, 0, 30}) {
                int r = k;
                LoopForge forge = state.make();
                forge.begin(r, 1);
                noRun(forge, "begin " + r);
                forge.run(false);
                Check.due("a run", () -> forge.register(31), 0);
                forge.begin(r, 1);
                noRun(forge, "begin " + r + " to the same");
            }
        }
    }

    private static void noRun(LoopForge forge, String what) {
        Check.state("register behind " + what, () -> forge.register(0));
        Check.state("cell behind " + what, () -> forge.cell(0, 0));
    }

    private static void leavesTheRest() {
        for (States state : States.values()) {
            for (int k : new int[] {0, 3, 31}) {
                int r = k;
                LoopForge forge = state.make();
                String before = States.loopSeen(forge) + States.layingSeen(forge);
                int was = forge.begin(r, 12345);
                States.alike("behind begin " + r + ", " + state,
                        States.loopSeen(forge) + States.layingSeen(forge), before);
                forge.begin(r, was);
                LoopForge twin = state.make();
                twin.begin(7, twin.begin(7, 1));
                States.alike("behind begin " + r + " and back, " + state, States.allSeen(forge), States.allSeen(twin));
            }
        }
    }
}
