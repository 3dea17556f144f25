/** Promises 7 (0 to 5) and 8: count and delay. */
public final class WaitsTest {
    public static void main(String[] args) {
        uses();
        places();
        bothAtOnce();
        roundsBoundPlaces();
        leastByUnits();
        leastByCircles();
        wrongInputs();
        Check.ends();
    }

    private static void counts(LoopForge forge, int... due) {
        for (int k = 0; k < due.length; k++) {
            int what = k + 3;
            Check.due("count " + what, () -> forge.count(what), due[k]);
        }
    }

    private static void uses() {
        LoopForge forge = Check.of("r0 = r1 + r1 r1 = r0 * r0 r2 = a[1] d[1*i] = r2 r4 = r4 < r9");
        counts(forge, 4, 2, 4);
        Check.due("behind", () -> forge.delay(0, 1, 0), 1);
        Check.due("before", () -> forge.delay(1, 0, 1), 3);
        Check.due("of a take", () -> forge.delay(2, 3, 0), 4);
        Check.due("itself", () -> forge.delay(4, 4, 1), 1);
        Check.none("itself at once", () -> forge.delay(4, 4, 0));
        Check.none("over 1", () -> forge.delay(0, 1, 1));
        Check.none("over 0", () -> forge.delay(1, 0, 0));
        forge.set(1, 20);
        forge.set(2, 7);
        Check.due("before", () -> forge.delay(1, 0, 1), 20);
        Check.due("of a take", () -> forge.delay(2, 3, 0), 7);
        counts(forge, 4, 2, 21);
    }

    private static void places() {
        LoopForge forge = new LoopForge();
        forge.set(3, 5);
        Check.read(forge, "a[1*i] = 1 r0 = a[1*i] r1 = a[1*i-3] a[1*i+2] = 2 b[7] = 3 r2 = c[1*i]");
        Check.due("set, take", () -> forge.delay(0, 1, 0), 5);
        Check.due("set, take later", () -> forge.delay(0, 2, 3), 5);
        Check.none("take, set never", () -> forge.delay(1, 0, 1));
        Check.due("set, set", () -> forge.delay(3, 0, 2), 1);
        Check.none("set before", () -> forge.delay(0, 3, 0));
        Check.due("set, take", () -> forge.delay(3, 1, 2), 5);
        Check.due("set, take", () -> forge.delay(3, 2, 5), 5);
        Check.none("take, take", () -> forge.delay(1, 2, 3));
        Check.due("one int, again and again", () -> forge.delay(4, 4, 1), 1);
        Check.none("other ints", () -> forge.delay(0, 0, 1));
        counts(forge, 6);
        LoopForge back = Check.of("r0 = a[1*i+2] a[1*i] = r0");
        Check.due("take, set", () -> back.delay(0, 1, 2), 0);
        Check.due("use", () -> back.delay(0, 1, 0), 4);
        counts(back, 2);
        LoopForge cross = Check.of("a[-2*i+9] = i r0 = a[3*i-1] r1 = a[0*i+5]");
        // 9 - 2n = 3m - 1: n 2, m 2; 9 - 2n = 5: n 2, in any m
        Check.due("cross", () -> cross.delay(0, 1, 0), 1);
        Check.due("cross, back", () -> cross.delay(1, 0, 5), 0);
        Check.due("fixed", () -> cross.delay(0, 2, 0), 1);
        Check.due("fixed, back", () -> cross.delay(2, 0, 1), 0);
        counts(cross, 4);
    }

    private static void bothAtOnce() {
        LoopForge forge = Check.of("r0 = a[1*i] a[1*i] = r0");
        Check.due("the greater", () -> forge.delay(0, 1, 0), 4);
        counts(forge, 1);
        LoopForge round = Check.of("a[5] = r0 r0 = a[5]");
        Check.due("set, take", () -> round.delay(0, 1, 0), 1);
        Check.due("use and places", () -> round.delay(1, 0, 1), 4);
        Check.due("set, set", () -> round.delay(0, 0, 1), 1);
        counts(round, 3, 2, 5);
    }

    private static void roundsBoundPlaces() {
        LoopForge forge = Check.of("a[1*i] = 1 r0 = a[1*i-15] b[3] = 1 r2 = r2 + 1");
        Check.due("the last", () -> forge.delay(0, 1, 15), 1);
        counts(forge, 3);
        forge.set(8, 15);
        Check.none("none", () -> forge.delay(0, 1, 15));
        counts(forge, 2);
        forge.set(8, 1);
        Check.none("one round", () -> forge.delay(2, 2, 1));
        Check.due("a use is one still", () -> forge.delay(3, 3, 1), 1);
        counts(forge, 1);
        forge.set(8, 64);
        Check.due("the last", () -> forge.delay(0, 1, 15), 1);
        LoopForge far = Check.of("a[4*i+10] = 1 r0 = a[4*i-242]");
        Check.none("not yet", () -> far.delay(0, 1, 63));
        far.set(8, 64);
        Check.due("in the last of 64", () -> far.delay(0, 1, 63), 1);
    }

    private static void leastByUnits() {
        LoopForge forge = Check.of("r0=1+1r1=1+1r2=1+1r3=1*1r4=1*1 a[1]=1 b[1]=1 r5=c[1]");
        // 8 of WIDTH 4; 5 of 2; 3 of 1; 2 of 1
        counts(forge, 2, 3, 1);
        forge.set(5, 3);
        counts(forge, 2, 3);
        forge.set(4, 8);
        counts(forge, 2, 2);
        forge.set(6, 2);
        counts(forge, 2, 2);
        forge.set(7, 8);
        counts(forge, 2, 1);
        forge.set(7, 1);
        counts(forge, 2, 8);
        forge.set(7, 16);
        forge.set(4, 1);
        counts(forge, 2, 5);
        LoopForge times = Check.of("r0=1*1r1=1*1r2=1*1");
        counts(times, 0, 3, 1);
    }

    private static void leastByCircles() {
        LoopForge forge = Check.of("r0 = r2 + 1 r1 = r0 * 2 r2 = r1 * 2");
        counts(forge, 3, 2, 7);
        LoopForge over = Check.of("r0 = a[1*i-2] r1 = r0 * 3 a[1*i] = r1");
        // 4 + 3 + 1 over 2 ROUNDS
        counts(over, 3, 2, 4);
        over.set(1, 4);
        counts(over, 3, 2, 5);
        LoopForge none = Check.of("r0 = 1 + 1 r1 = r0 + 1");
        counts(none, 1, 1, 1);
        StringBuilder text = new StringBuilder("r0 = r31 * 3 ");
        for (int x = 1; x < 32; x++) {
            text.append("r" + x + " = r" + (x - 1) + " * 3 ");
        }
        LoopForge great = Check.of(text.toString());
        great.set(1, 20);
        counts(great, 32, 32, 640);
        Check.due("not laid", great::lay, 0);
    }

    private static void wrongInputs() {
        LoopForge forge = Check.of("r0 = r2 + 1 r1 = r0 * 2");
        Check.bounds("x", () -> forge.delay(-1, 0, 0));
        Check.bounds("x", () -> forge.delay(2, 0, 0));
        Check.bounds("y", () -> forge.delay(0, -1, 0));
        Check.bounds("y", () -> forge.delay(0, 2, 0));
        Check.bounds("y, d", () -> forge.delay(0, 2, -1));
        Check.none("d", () -> forge.delay(0, 1, -1));
        Check.none("d", () -> forge.delay(0, 1, Integer.MAX_VALUE));
        Check.none("d", () -> forge.delay(0, 1, Integer.MIN_VALUE));
        Check.argument("count", () -> forge.count(-1));
        Check.argument("count", () -> forge.count(12));
        Check.argument("count", () -> forge.count(Integer.MIN_VALUE));
    }
}
