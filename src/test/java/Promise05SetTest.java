/** Promise 5: set. */
public final class Promise05SetTest {
    private static final int[] FIRST = {1, 3, 4, 1, 2, 1, 1, 4, 16};
    private static final int[] LIMIT = {20, 20, 20, 20, 8, 8, 8, 16, 64};

    public static void main(String[] args) {
        takes1ToTheLimit();
        refusesOtherValues();
        refusesOtherWhats();
        eachIsApart();
        times1To20();
        units1To8();
        width1To16();
        rounds1To64();
        takesLayingAndRunAway();
        leavesTheRest();
        worksWithoutALoop();
        Check.ends();
    }

    private static void takes1ToTheLimit() {
        for (int k = 0; k < 9; k++) {
            int what = k;
            LoopForge forge = new LoopForge();
            int before = FIRST[what];
            for (int n = 1; n <= LIMIT[what]; n++) {
                int v = n;
                Check.due("set " + what + " to " + v, () -> forge.set(what, v), before);
                before = v;
            }
            Check.due("set " + what + " back", () -> forge.set(what, 1), LIMIT[what]);
            Check.due("set " + what + " the same", () -> forge.set(what, 1), 1);
        }
    }

    private static void refusesOtherValues() {
        for (int k = 0; k < 9; k++) {
            int what = k;
            int limit = LIMIT[what];
            for (int n : new int[] {0, -1, -limit, Integer.MIN_VALUE, limit + 1, limit + 256, 65536 + limit,
                Integer.MAX_VALUE}) {
                int v = n;
                boolean near = v == 0 || v == limit + 1;
                States[] states = near ? States.values() : new States[] {States.NEW, States.RUN_AS_LAID};
                States.refusedArgument("set " + what + " to " + v, forge -> forge.set(what, v), states);
            }
        }
    }

    private static void refusesOtherWhats() {
        for (int k : new int[] {-1, 9, 10, 255, 256, Integer.MIN_VALUE, Integer.MAX_VALUE}) {
            int what = k;
            States.refusedArgument("set " + what, forge -> forge.set(what, 1), States.values());
            States.refusedArgument("set " + what + " to 0", forge -> forge.set(what, 0), States.RUN_AS_LAID);
        }
    }

    private static void eachIsApart() {
        for (int k = 0; k < 9; k++) {
            LoopForge forge = new LoopForge();
            forge.set(k, LIMIT[k]);
            for (int n = 0; n < 9; n++) {
                int other = n;
                Check.due("set " + other, () -> forge.set(other, 1), other == k ? LIMIT[k] : FIRST[other]);
            }
        }
    }

    private static void times1To20() {
        LoopForge forge = Check.of("r0=r0^1 r1=r1*1 r2=a[3] r3=r2<1 b[3]=1 r4=b[3] r5=min(r5 1) r6=max(r6 1)"
                + " r7=r7<<1 r8=r8>>1 r9=r9&1 r10=r10|1 r11=r11+1 r12=r12-1 r13=r13<1");
        for (int time : new int[] {20, 2, 1, 19}) {
            for (int what = 0; what < 4; what++) {
                forge.set(what, 5);
            }
            forge.set(0, time);
            // Each operator but * is of kind 0.
            for (int k : new int[] {0, 6, 7, 8, 9, 10, 11, 12, 13, 14}) {
                int x = k;
                Check.due("reckoning " + x, () -> forge.delay(x, x, 1), time);
            }
            Check.due("* beside it", () -> forge.delay(1, 1, 1), 5);
            forge.set(1, time);
            Check.due("*", () -> forge.delay(1, 1, 1), time);
            Check.due("take beside it", () -> forge.delay(2, 3, 0), 5);
            forge.set(2, time);
            Check.due("take", () -> forge.delay(2, 3, 0), time);
            Check.due("set of an array beside it", () -> forge.delay(4, 5, 0), 5);
            forge.set(3, time);
            Check.due("set of an array", () -> forge.delay(4, 5, 0), time);
        }
    }

    /** So many ROWS of a kind. */
    private static LoopForge rows(int kind, int many) {
        StringBuilder text = new StringBuilder();
        for (int x = 0; x < many; x++) {
            text.append(kind == 2 ? "r" + x + "=a[0] " : kind == 3 ? "a[1*i]=i " : "r" + x + (kind == 1 ? "=i*1 " : "=i|1 "));
        }
        return Check.of(text.toString());
    }

    private static void least(LoopForge forge, int due) {
        Check.due("least by units", () -> forge.count(4), due);
    }

    private static void units1To8() {
        for (int kind = 0; kind < 4; kind++) {
            LoopForge full = rows(kind, 16);
            LoopForge above = rows(kind, 17);
            for (LoopForge forge : new LoopForge[] {full, above}) {
                forge.set(4, 8);
                forge.set(5, 8);
                forge.set(6, 8);
                forge.set(7, 16);
            }
            least(full, 2);
            least(above, 3);
            int units = kind < 2 ? 4 : 5;
            full.set(units, 1);
            least(full, 16);
            full.set(units, 7);
            least(full, 3);
            full.set(units, 8);
            // Units of * bound * alone; the others leave this kind alone.
            full.set(6, 1);
            least(full, kind == 1 ? 16 : 2);
            full.set(6, 8);
            full.set(units == 4 ? 5 : 4, 1);
            least(full, 2);
        }
    }

    private static void width1To16() {
        StringBuilder text = new StringBuilder();
        for (int x = 0; x < 16; x++) {
            text.append("r" + x + "=i+1 a[1*i]=i ");
        }
        LoopForge full = Check.of(text.toString());
        LoopForge above = Check.of(text + "r20=i+1");
        for (LoopForge forge : new LoopForge[] {full, above}) {
            forge.set(4, 8);
            forge.set(5, 8);
            forge.set(7, 16);
        }
        least(full, 2);
        least(above, 3);
        full.set(7, 15);
        least(full, 3);
        full.set(7, 1);
        least(full, 32);
    }

    private static void rounds1To64() {
        for (int n : new int[] {1, 2, 63, 64}) {
            LoopForge forge = Check.of("r0=i+0 r1=r1+1 d[1*i]=7");
            forge.set(8, n);
            Check.due("steps", () -> forge.run(false), 3 * n);
            Check.due("the last i", () -> forge.register(0), n - 1);
            Check.due("how often", () -> forge.register(1), n);
            Check.due("the last int", () -> forge.cell(3, 512 + n - 1), 7);
            Check.due("the next int", () -> forge.cell(3, 512 + n), 0);
            int distance = forge.lay();
            Check.due("cycles", () -> forge.run(true),
                    forge.count(9) + 1 + (n - 1) * distance);
            Check.due("how often, laid", () -> forge.register(1), n);
        }
    }

    private static void takesLayingAndRunAway() {
        for (States state : States.values()) {
            for (int k = 0; k < 9; k++) {
                LoopForge forge = state.make();
                // A value that differs, then the same one.
                int was = forge.set(k, 1);
                gone(forge, "set " + k + ", " + state);
                LoopForge again = state.make();
                again.set(k, was);
                gone(again, "set " + k + " to the same, " + state);
            }
        }
    }

    private static void gone(LoopForge forge, String what) {
        for (int k = 6; k <= 11; k++) {
            int count = k;
            Check.due("count " + count + " behind " + what, () -> forge.count(count), 0);
        }
        Check.state("row behind " + what, () -> forge.row(0, 0));
        Check.state("run as laid behind " + what, () -> forge.run(true));
        Check.state("register behind " + what, () -> forge.register(0));
        Check.state("cell behind " + what, () -> forge.cell(0, 0));
    }

    private static void leavesTheRest() {
        for (States state : States.values()) {
            for (int k = 0; k < 9; k++) {
                LoopForge forge = state.make();
                int was = forge.set(k, 1);
                forge.set(k, was);
                LoopForge twin = state.make();
                twin.set(k == 0 ? 1 : 0, twin.set(k == 0 ? 1 : 0, 1));
                States.alike("behind set " + k + ", " + state, States.allSeen(forge), States.allSeen(twin));
            }
        }
        LoopForge forge = States.RUN_AS_LAID.make();
        String laid = States.layingSeen(forge);
        String ran = States.runSeen(forge);
        forge.set(0, forge.set(0, 20));
        forge.lay();
        forge.run(true);
        States.alike("laid again", States.layingSeen(forge), laid);
        States.alike("run again", States.runSeen(forge), ran);
    }

    private static void worksWithoutALoop() {
        for (States state : States.WITHOUT_LOOP) {
            LoopForge forge = state.make();
            forge.set(0, 9);
            forge.set(8, 3);
            forge.end(0);
            Check.read(forge, "r0 = r0 + 1");
            Check.due("delay, " + state, () -> forge.delay(0, 0, 1), 9);
            Check.due("steps, " + state, () -> forge.run(false), 3);
        }
    }
}
