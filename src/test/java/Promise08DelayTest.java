/** Promise 8: delay, with what WAITS says. */
public final class Promise08DelayTest {
    public static void main(String[] args) {
        refusesRowsThatAreNone();
        refusesWaitsThatAreNone();
        rowsGoBeforeWaits();
        onlyTells();
        useBehindAndBefore();
        useTakesTheSettersTime();
        useOfOneRound();
        placesOfOneArray();
        placesDelays();
        placesTheLeastRounds();
        placesBothBelowRounds();
        placesOfEachStep();
        placesOfItself();
        theGreatestDelay();
        Check.ends();
    }

    private static void waits(LoopForge forge, int x, int y, int d, int due) {
        Check.due("delay " + x + " " + y + " " + d, () -> forge.delay(x, y, d), due);
    }

    private static void waitsNot(LoopForge forge, int x, int y, int d) {
        Check.none("delay " + x + " " + y + " " + d, () -> forge.delay(x, y, d));
    }

    /** The one WAIT of y for x, over any number of ROUNDS. */
    private static void waitsOnly(LoopForge forge, int x, int y, int d, int due) {
        for (int over = -1; over <= 64; over++) {
            if (over == d) {
                waits(forge, x, y, over, due);
            } else {
                waitsNot(forge, x, y, over);
            }
        }
    }

    private static void waitsNever(LoopForge forge, int x, int y) {
        waitsOnly(forge, x, y, -2, 0);
    }

    private static void refusesRowsThatAreNone() {
        for (int k : new int[] {-1, 5, 6, 48, Integer.MIN_VALUE, Integer.MAX_VALUE}) {
            int none = k;
            States[] states = {States.READ, States.LAID, States.RUN_AS_WRITTEN, States.RUN_AS_LAID};
            States.refusedBounds("delay of x " + none, forge -> forge.delay(none, 0, 0), states);
            States.refusedBounds("delay of y " + none, forge -> forge.delay(0, none, 0), states);
            States.refusedBounds("delay of both " + none, forge -> forge.delay(none, none, 0), states);
        }
        for (int d = 0; d < 2; d++) {
            int over = d;
            States.refusedBounds("delay without a loop", forge -> forge.delay(0, 0, over), States.WITHOUT_LOOP);
        }
        LoopForge forge = Check.of("a[0]=1");
        waits(forge, 0, 0, 1, 1);
        Check.bounds("x 1", () -> forge.delay(1, 0, 1));
        Check.bounds("y 1", () -> forge.delay(0, 1, 1));
        StringBuilder text = new StringBuilder();
        for (int x = 0; x < 48; x++) {
            text.append("a[0]=1 ");
        }
        LoopForge full = Check.of(text.toString());
        waits(full, 47, 47, 1, 1);
        waits(full, 0, 47, 0, 1);
        waits(full, 47, 0, 1, 1);
        Check.bounds("x 48", () -> full.delay(48, 0, 1));
        Check.bounds("y 48", () -> full.delay(0, 48, 0));
    }

    private static void refusesWaitsThatAreNone() {
        for (int k : new int[] {-1, 2, 64, Integer.MIN_VALUE, Integer.MAX_VALUE}) {
            int d = k;
            States.refusedNone("delay over " + d, forge -> forge.delay(0, 0, d), States.WITH_LOOP);
            States.refusedNone("delay over " + d, forge -> forge.delay(1, 2, d), States.WITH_LOOP);
        }
    }

    private static void rowsGoBeforeWaits() {
        States.refusedBounds("delay", forge -> forge.delay(-1, 0, -1), States.values());
        States.refusedBounds("delay", forge -> forge.delay(0, 48, -1), States.values());
    }

    private static void onlyTells() {
        States.onlyTells("delay", forge -> forge.delay(1, 2, 0), States.WITH_LOOP);
    }

    private static void useBehindAndBefore() {
        LoopForge forge = Check.of("r0=r1+1 r1=r0+r2 r2=r2+r9");
        waitsOnly(forge, 0, 1, 0, 1);
        waitsOnly(forge, 1, 0, 1, 1);
        waitsOnly(forge, 2, 1, 1, 1);
        waitsOnly(forge, 2, 2, 1, 1);
        waitsNever(forge, 0, 0);
        waitsNever(forge, 1, 1);
        waitsNever(forge, 1, 2);
        Check.due("waits", () -> forge.count(3), 4);
        // Each side of each form uses.
        LoopForge forms = Check.of("r0=1+1 r1=r0*1 r2=1*r0 r3=min(r0 1) r4=max(1 r0) a[0]=r0 b[1*i]=r0 r5=1*1");
        for (int y = 1; y <= 6; y++) {
            waitsOnly(forms, 0, y, 0, 1);
        }
        waitsNever(forms, 0, 7);
    }

    private static void useTakesTheSettersTime() {
        LoopForge forge = Check.of("r0=1+1 r1=1*1 r2=a[0] d[0]=r0 d[1]=r1 d[2]=r2 r3=r0*r1");
        for (int time : new int[] {1, 20}) {
            for (int what = 0; what < 3; what++) {
                forge.set(what, time);
                waits(forge, what, 3 + what, 0, time);
                forge.set(what, 7 + what);
            }
            waits(forge, 0, 6, 0, 7);
            waits(forge, 1, 6, 0, 8);
        }
    }

    /** A USE is one, whatever ROUNDS are. */
    private static void useOfOneRound() {
        LoopForge forge = Check.of("r0=r1+1 r1=r0+1");
        for (int rounds : new int[] {1, 2, 64}) {
            forge.set(8, rounds);
            waits(forge, 0, 1, 0, 1);
            waits(forge, 1, 0, 1, 1);
        }
    }

    private static void placesOfOneArray() {
        LoopForge forge = Check.of("a[0]=1 b[0]=1 c[0]=1 d[0]=1 r0=a[0] r1=b[0] r2=c[0] r3=d[0]");
        for (int x = 0; x < 4; x++) {
            for (int y = 0; y < 4; y++) {
                if (x != y) {
                    waitsNot(forge, x, y, x < y ? 0 : 1);
                    waitsNot(forge, x, 4 + y, 0);
                    waitsNot(forge, 4 + x, y, 1);
                }
                waitsNot(forge, 4 + x, 4 + y, x < y ? 0 : 1);
            }
            waits(forge, x, 4 + x, 0, 1);
            waits(forge, 4 + x, x, 1, 0);
            waits(forge, x, x, 1, 1);
        }
        Check.due("waits", () -> forge.count(3), 12);
    }

    private static void placesDelays() {
        LoopForge forge = Check.of("a[0]=1 r0=a[0] a[0]=2");
        for (int time : new int[] {1, 2, 20}) {
            forge.set(3, time);
            forge.set(2, 21 - time);
            waitsOnly(forge, 0, 1, 0, time);
            waitsOnly(forge, 2, 1, 1, time);
            waits(forge, 1, 2, 0, 0);
            waits(forge, 1, 0, 1, 0);
            waits(forge, 0, 2, 0, 1);
            waits(forge, 2, 0, 1, 1);
            waits(forge, 0, 0, 1, 1);
            waits(forge, 2, 2, 1, 1);
        }
    }

    private static void placesTheLeastRounds() {
        // 2n is the int of the set, m that of the take: the first meet at once, others 1, 2, .. ROUNDS later.
        LoopForge faster = Check.of("a[2*i]=1 r0=a[1*i]");
        waitsOnly(faster, 0, 1, 0, 1);
        waitsNever(faster, 1, 0);
        LoopForge before = Check.of("r0=a[1*i] a[2*i]=1");
        waitsOnly(before, 1, 0, 1, 1);
        waitsOnly(before, 0, 1, 0, 0);
        // 2n + 3 is m: the least way is that of ROUND 0.
        LoopForge ahead = Check.of("a[2*i+3]=1 r0=a[1*i]");
        waitsOnly(ahead, 0, 1, 3, 1);
        // n + 9 is 2m: the ways get less up to ROUND 9, both at 18, then the other waits.
        LoopForge meeting = Check.of("a[1*i+9]=1 r0=a[2*i]");
        waitsOnly(meeting, 0, 1, 0, 1);
        waitsOnly(meeting, 1, 0, 1, 0);
        // n + 10 is 2m: ways 5, 4 (n 2), .. 1 (n 8), and 0 (n 10).
        LoopForge even = Check.of("a[1*i+10]=1 r0=a[2*i]");
        waitsOnly(even, 0, 1, 0, 1);
        even.set(8, 10);
        waitsOnly(even, 0, 1, 1, 1);
        even.set(8, 9);
        waitsOnly(even, 0, 1, 2, 1);
        // Crossing: 20 - n is m + 1 only for an odd way.
        LoopForge crossing = Check.of("a[-1*i+20]=1 r0=a[1*i+1]");
        waitsOnly(crossing, 0, 1, 1, 1);
        waitsOnly(crossing, 1, 0, 1, 0);
    }

    private static void placesBothBelowRounds() {
        LoopForge forge = Check.of("a[4*i+248]=1 r0=a[4*i]");
        // The take comes to the first int of the set in ROUND 62.
        forge.set(8, 64);
        waitsOnly(forge, 0, 1, 62, 1);
        forge.set(8, 63);
        waitsOnly(forge, 0, 1, 62, 1);
        forge.set(8, 62);
        waitsNever(forge, 0, 1);
        LoopForge last = Check.of("a[4*i+250]=1 r0=a[4*i-2]");
        last.set(8, 64);
        waitsOnly(last, 0, 1, 63, 1);
        last.set(8, 63);
        waitsNever(last, 0, 1);
        LoopForge never = Check.of("a[4*i+250]=1 r0=a[4*i-6]");
        never.set(8, 64);
        waitsNever(never, 0, 1);
        // The take is first, and in its ROUND 1, or never, if there is no ROUND 2 of the set.
        LoopForge once = Check.of("a[1*i]=1 r0=a[2*i]");
        waitsOnly(once, 1, 0, 1, 0);
        once.set(8, 3);
        waitsOnly(once, 1, 0, 1, 0);
        once.set(8, 2);
        waitsNever(once, 1, 0);
        once.set(8, 1);
        waitsOnly(once, 0, 1, 0, 1);
        // Over 0 ROUNDS they meet in the last ROUND, or not.
        LoopForge together = Check.of("a[2*i]=1 r0=a[1*i+15]");
        waitsOnly(together, 0, 1, 0, 1);
        together.set(8, 15);
        waitsNever(together, 0, 1);
        waitsOnly(together, 1, 0, 1, 0);
    }

    private static void placesOfEachStep() {
        for (int c = 1; c <= 4; c++) {
            for (String sign : new String[] {"", "-"}) {
                String step = sign + c + "*i";
                LoopForge forge = Check.of("a[" + step + "]=1 r0=a[" + step + (sign.isEmpty() ? "-" : "+") + 3 * c
                        + "] r1=a[" + step + (sign.isEmpty() ? "+" : "-") + 3 * c + "] r2=a[" + step + "+1]");
                waitsOnly(forge, 0, 1, 3, 1);
                waits(forge, 2, 0, 3, 0);
                waitsNever(forge, 0, 2);
                if (c > 1) {
                    // Never the same int, for they are always one off.
                    waitsNever(forge, 0, 3);
                    waitsNever(forge, 3, 0);
                }
            }
        }
        LoopForge none = Check.of("a[0*i+7]=1 r0=a[-0*i+7] r1=a[7] r2=a[0*i-7] r3=a[8]");
        waitsOnly(none, 0, 1, 0, 1);
        waits(none, 0, 2, 0, 1);
        waitsNot(none, 0, 3, 0);
        waitsNot(none, 0, 4, 0);
        waits(none, 1, 0, 1, 0);
        waits(none, 2, 0, 1, 0);
        // One int, in the way of another step: 3n - 6 is 0 in ROUND 2, the only one.
        LoopForge fixed = Check.of("a[3*i-6]=1 r0=a[0]");
        waitsOnly(fixed, 0, 1, 0, 1);
        waitsOnly(fixed, 1, 0, 1, 0);
        fixed.set(8, 3);
        waitsOnly(fixed, 0, 1, 0, 1);
        waits(fixed, 1, 0, 1, 0);
        fixed.set(8, 2);
        waitsNever(fixed, 0, 1);
        LoopForge odd = Check.of("a[3*i-5]=1 r0=a[0]");
        waitsNever(odd, 0, 1);
        waitsNever(odd, 1, 0);
    }

    private static void placesOfItself() {
        LoopForge forge = Check.of("a[7]=1 b[0*i]=1 c[1*i]=1 d[-4*i]=1 r0=d[0]");
        waitsOnly(forge, 0, 0, 1, 1);
        waits(forge, 1, 1, 1, 1);
        waitsNot(forge, 2, 2, 1);
        waitsNot(forge, 3, 3, 1);
        waitsNot(forge, 4, 4, 1);
        forge.set(8, 2);
        waits(forge, 0, 0, 1, 1);
        forge.set(8, 1);
        waitsNot(forge, 0, 0, 1);
    }

    private static void theGreatestDelay() {
        // USE has the take's TIME; PLACES have 0.
        LoopForge forge = Check.of("r0=a[1*i] a[1*i]=r0");
        for (int time : new int[] {1, 20}) {
            forge.set(2, time);
            waitsOnly(forge, 0, 1, 0, time);
        }
        Check.due("waits", () -> forge.count(3), 1);
        LoopForge back = Check.of("a[5]=r0 r0=a[5]");
        waitsOnly(back, 1, 0, 1, 4);
        Check.due("waits", () -> back.count(3), 3);
        // Over other numbers of ROUNDS both are there.
        LoopForge two = Check.of("r0=a[1*i+1] a[1*i]=r0");
        waits(two, 0, 1, 0, 4);
        waits(two, 0, 1, 1, 0);
        Check.due("waits", () -> two.count(3), 2);
    }
}
