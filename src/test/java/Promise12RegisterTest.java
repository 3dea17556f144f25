/** Promise 12: register. */
public final class Promise12RegisterTest {
    public static void main(String[] args) {
        refusedWithoutARun();
        refusesOtherRegisters();
        theFirstExceptionThatFits();
        onlyTells();
        aRunBehindARefusedOne();
        // Each with objects of its own: what the one RUN left must not stand in for the other.
        for (boolean laid : new boolean[] {false, true}) {
            whatItsRowGaveInTheLastRound(laid);
            whatBeginGives(laid);
            whatNoneUses(laid);
            allRegisters(laid);
        }
        Check.ends();
    }

    private static void refusedWithoutARun() {
        for (int k : new int[] {0, 1, 31}) {
            int r = k;
            States.refusedState("register " + r, forge -> forge.register(r), States.WITHOUT_RUN);
        }
    }

    private static void refusesOtherRegisters() {
        for (int k : new int[] {-1, 32, 33, 256, Integer.MIN_VALUE, Integer.MAX_VALUE}) {
            int r = k;
            States.refusedArgument("register " + r, forge -> forge.register(r), States.WITH_RUN);
        }
    }

    private static void theFirstExceptionThatFits() {
        for (int k : new int[] {-1, 32, Integer.MIN_VALUE, Integer.MAX_VALUE}) {
            int r = k;
            States.refusedState("register " + r, forge -> forge.register(r), States.WITHOUT_RUN);
        }
    }

    private static void onlyTells() {
        for (int k : new int[] {0, 31}) {
            int r = k;
            States.onlyTells("register " + r, forge -> forge.register(r), States.WITH_RUN);
        }
    }

    private static void whatItsRowGaveInTheLastRound(boolean laid) {
        for (int rounds : new int[] {1, 2, 64}) {
            LoopForge forge = Check.of("r0=i+0 r1=r0*2 r2=b[1*i] r3=r3+1 r4=r5-i r5=r4-i");
            forge.set(8, rounds);
            forge.begin(3, -5);
            forge.lay();
            int five = 0;
            int four = 0;
            for (int i = 0; i < rounds; i++) {
                four = five - i;
                five = four - i;
            }
            int[] due = {rounds - 1, 2 * (rounds - 1), (511 + rounds) * (511 + rounds) + 3, rounds - 5, four, five};
            forge.run(laid);
            for (int k = 0; k < 6; k++) {
                int r = k;
                Check.due("register " + r, () -> forge.register(r), due[r]);
            }
        }
    }

    /** One that no ROW sets is what BEGIN gives; one that a ROW sets is not. */
    private static void whatBeginGives(boolean laid) {
        LoopForge forge = Check.of("r0=r30+1 a[0]=r31");
        forge.begin(0, 50);
        forge.begin(30, 60);
        forge.begin(31, Integer.MIN_VALUE);
        forge.begin(17, Integer.MAX_VALUE);
        forge.lay();
        forge.run(laid);
        Check.due("r0", () -> forge.register(0), 61);
        Check.due("r30", () -> forge.register(30), 60);
        Check.due("r31", () -> forge.register(31), Integer.MIN_VALUE);
        Check.due("r17", () -> forge.register(17), Integer.MAX_VALUE);
        Check.due("r1", () -> forge.register(1), 0);
    }

    /** What no ROW uses has no place when it was laid, and is what its ROW gave all the same. */
    private static void whatNoneUses(boolean laid) {
        LoopForge forge = Check.of("r0=i*i r1=a[1*i] r2=min(i 3)");
        forge.lay();
        forge.run(laid);
        Check.due("r0", () -> forge.register(0), 225);
        Check.due("r1", () -> forge.register(1), 527 * 7 ^ 21);
        Check.due("r2", () -> forge.register(2), 3);
    }

    private static void allRegisters(boolean laid) {
        StringBuilder text = new StringBuilder();
        for (int r = 0; r < 32; r++) {
            text.append("r" + r + "=i+" + 10 * r + " ");
        }
        LoopForge forge = Check.of(text.toString());
        forge.lay();
        forge.run(laid);
        for (int k = 0; k < 32; k++) {
            int r = k;
            Check.due("register " + r, () -> forge.register(r), 15 + 10 * r);
        }
    }

    /** A refused run is none, and takes none away. */
    private static void aRunBehindARefusedOne() {
        LoopForge forge = Check.of("r0=i+1");
        Check.state("run as laid", () -> forge.run(true));
        Check.state("register", () -> forge.register(0));
        forge.run(false);
        Check.state("run as laid", () -> forge.run(true));
        Check.due("register", () -> forge.register(0), 16);
    }
}
