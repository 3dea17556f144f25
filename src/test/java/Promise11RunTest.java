/** Promise 11: run, with what a LOOP does, and how it is done as it was laid. */
public final class Promise11RunTest {
    public static void main(String[] args) {
        refusedWithoutALoop();
        refusedIfItIsNotLaid();
        leavesTheRest();
        steps();
        cycles();
        theLatestRunCounts();
        arraysAreNewInEachRun();
        intsWrap();
        shiftsByTheLowest5Bits();
        lessIs1Or0();
        smallestAndGreatest();
        bothTellTheSame();
        // Each with objects of its own: what the one RUN left must not stand in for the other.
        for (boolean laid : new boolean[] {false, true}) {
            usesOfThisRoundAndTheOneBefore(laid);
            rowsInTheirOrder(laid);
            setsAndTakes(laid);
            setsOfOneInt(laid);
            longSpans(laid);
            oneLongSpan(laid);
            fullLoops(laid);
            theLeastIsTakenFromAll(laid);
        }
        Check.ends();
    }

    private static void refusedWithoutALoop() {
        States.refusedState("run as written", forge -> forge.run(false), States.WITHOUT_LOOP);
        States.refusedState("run as laid", forge -> forge.run(true), States.WITHOUT_LOOP);
    }

    private static void refusedIfItIsNotLaid() {
        States.refusedState("run as laid", forge -> forge.run(true), States.WITHOUT_LAYING);
        for (States state : States.WITH_LOOP) {
            LoopForge forge = state.make();
            Check.due("run as written, " + state, () -> forge.run(false), 10 * forge.count(0));
        }
    }

    private static void leavesTheRest() {
        for (States state : States.WITH_LOOP) {
            for (int laid = 0; laid < 2; laid++) {
                LoopForge forge = state.make();
                if (laid == 0 || forge.count(6) > 0) {
                    String before = States.loopSeen(forge) + States.layingSeen(forge);
                    forge.run(laid == 1);
                    States.alike("behind run, " + state, States.loopSeen(forge) + States.layingSeen(forge), before);
                    Check.due("bytes", () -> forge.count(2), States.WAITING.length());
                    Check.due("begin", () -> forge.begin(3, 0), 17);
                    Check.due("begin", () -> forge.begin(2, 0), -3);
                    Check.due("set", () -> forge.set(8, 1), 10);
                }
            }
        }
    }

    /** One for a ROW, in each ROUND. */
    private static void steps() {
        for (int rows : new int[] {1, 2, 48}) {
            StringBuilder text = new StringBuilder();
            for (int x = 0; x < rows; x++) {
                text.append("a[1*i]=i ");
            }
            LoopForge forge = Check.of(text.toString());
            for (int n : new int[] {1, 2, 16, 63, 64}) {
                forge.set(8, n);
                Check.due("steps", () -> forge.run(false), n * rows);
            }
        }
    }

    /** The greatest cycle with the ROW's TIME, and ROUNDS less 1 times the DISTANCE. */
    private static void cycles() {
        String text = "r0=a[1*i] r1=r0*3 r2=r1+r9 d[1*i]=r2";
        for (int n : new int[] {1, 2, 16, 63, 64}) {
            LoopForge forge = Check.of(text, 8, n);
            Check.due("lay", forge::lay, 2);
            Check.due("cycles of " + n, () -> forge.run(true), 9 + 1 + (n - 1) * 2);
        }
        // The last ROW to begin is not the last whose TIME is over: 20 from 0, 1 and 1.
        LoopForge early = Check.of("r0=i*3 r1=i+1 r2=r1+1", 1, 20, 4, 3, 8, 1);
        early.lay();
        Check.due("the greatest cycle", () -> early.count(9), 1);
        Check.due("cycles", () -> early.run(true), 20);
        // Of a set the TIME counts, too, and of a take that none uses.
        LoopForge set = Check.of("a[1*i]=1", 3, 20, 8, 5);
        set.lay();
        Check.due("cycles", () -> set.run(true), 24);
        LoopForge take = Check.of("r0=a[0]", 2, 20, 8, 5);
        take.lay();
        Check.due("cycles", () -> take.run(true), 24);
        LoopForge one = Check.of("r0=i+1", 8, 1);
        one.lay();
        Check.due("cycles", () -> one.run(true), 1);
    }

    private static void theLatestRunCounts() {
        LoopForge forge = Check.of("r0=r1+1 d[0]=r0");
        forge.lay();
        forge.begin(1, 4);
        forge.run(false);
        Check.due("r0", () -> forge.register(0), 5);
        forge.begin(1, 8);
        forge.run(true);
        Check.due("r0", () -> forge.register(0), 9);
        Check.due("d", () -> forge.cell(3, 512), 9);
        forge.begin(1, 12);
        forge.run(false);
        Check.due("r0", () -> forge.register(0), 13);
        Check.due("d", () -> forge.cell(3, 512), 13);
    }

    private static void arraysAreNewInEachRun() {
        LoopForge forge = Check.of("r0=d[0] r1=r0+1 d[0]=r1", 8, 3);
        forge.lay();
        for (int k = 0; k < 4; k++) {
            forge.run(k % 2 == 1);
            Check.due("d", () -> forge.cell(3, 512), 3);
            Check.due("r0", () -> forge.register(0), 2);
        }
        // From end to end of each ARRAY, also behind another text and in the other way to run.
        for (int k = 0; k < 16; k++) {
            char array = (char) ('a' + k / 4);
            LoopForge two = Check.of(array + "[4*i+250]=-77 " + array + "[-4*i-250]=-77 " + array + "[1*i]=-77", 8, 64);
            two.lay();
            two.run(k % 2 == 1);
            Check.due("the last place", () -> two.cell(array - 'a', 1014), -77);
            Check.read(two, "r0=" + array + "[4*i+250] r1=" + array + "[-4*i-250] r2=" + array + "[1*i]");
            two.lay();
            two.run(k % 4 > 1);
            int[] places = {1014, 10, 575};
            for (int n = 0; n < 3; n++) {
                int j = places[n];
                int r = n;
                int due = array == 'a' ? j * 7 ^ 21 : array == 'b' ? j * j + 3 : array == 'c' ? 5 - j : 0;
                Check.due("cell " + j + " of " + array, () -> two.cell(array - 'a', j), due);
                Check.due("taken from " + j + " of " + array, () -> two.register(r), due);
            }
        }
    }

    private static void gives(String text, int first, int second, int due) {
        for (boolean laid : new boolean[] {false, true}) {
            LoopForge forge = Check.of("r0 = " + text);
            forge.begin(1, first);
            forge.begin(2, second);
            forge.lay();
            forge.run(laid);
            Check.due(text + " of " + first + " and " + second, () -> forge.register(0), due);
        }
    }

    private static void intsWrap() {
        int max = Integer.MAX_VALUE;
        int min = Integer.MIN_VALUE;
        gives("r1 + r2", max, 1, min);
        gives("r1 + r2", min, min, 0);
        gives("r1 + 1000", max, 0, min + 999);
        gives("r1 - r2", min, 1, max);
        gives("r1 - r2", 0, min, min);
        gives("r1 - r2", max, -1, min);
        gives("r1 * r2", max, 2, -2);
        gives("r1 * r2", min, -1, min);
        gives("r1 * r2", 65536, 65536, 0);
        gives("r1 * r2", 46341, 46341, -2147479015);
        gives("r1 & r2", -1, min, min);
        gives("r1 | r2", 0, min, min);
        gives("r1 ^ r2", -1, min, max);
    }

    private static void shiftsByTheLowest5Bits() {
        for (int by = -33; by <= 65; by++) {
            gives("r1 << r2", 5, by, 5 << Math.floorMod(by, 32));
            gives("r1 >> r2", -1000, by, -1000 >> Math.floorMod(by, 32));
            gives("r1 >> r2", 1000, by, 1000 >> Math.floorMod(by, 32));
        }
        gives("r1 << r2", 1, 31, Integer.MIN_VALUE);
        gives("r1 << r2", 1, 32, 1);
        gives("r1 << r2", 3, 31, Integer.MIN_VALUE);
        gives("r1 >> r2", Integer.MIN_VALUE, 31, -1);
        gives("r1 >> r2", Integer.MIN_VALUE, 32, Integer.MIN_VALUE);
        gives("r1 >> r2", Integer.MAX_VALUE, 31, 0);
        gives("r1 << r2", 7, Integer.MIN_VALUE, 7);
        gives("r1 << r2", 7, Integer.MAX_VALUE, Integer.MIN_VALUE);
        gives("r1 << 1000", 7, 0, 7 << 8);
        gives("r1 >> -1", -7, 0, -1);
    }

    private static void lessIs1Or0() {
        int[] ints = {Integer.MIN_VALUE, -1, 0, 1, Integer.MAX_VALUE};
        for (int k = 0; k < ints.length; k++) {
            for (int n = 0; n < ints.length; n++) {
                gives("r1 < r2", ints[k], ints[n], k < n ? 1 : 0);
            }
        }
    }

    private static void smallestAndGreatest() {
        int[] ints = {Integer.MIN_VALUE, -1, 0, 1, Integer.MAX_VALUE};
        for (int k = 0; k < ints.length; k++) {
            for (int n = 0; n < ints.length; n++) {
                gives("min(r1 r2)", ints[k], ints[n], ints[Math.min(k, n)]);
                gives("max(r1 r2)", ints[k], ints[n], ints[Math.max(k, n)]);
            }
        }
    }

    private static void usesOfThisRoundAndTheOneBefore(boolean laid) {
        // r1 is that of the ROUND before, at first from BEGIN; r0 that of this ROUND.
        LoopForge forge = Check.of("r0=r1+0 r1=i+10 r2=r1+r0 a[1*i]=r0 b[1*i]=r2", 8, 4);
        forge.begin(1, 77);
        forge.lay();
        forge.run(laid);
        int[] zero = {77, 10, 11, 12};
        for (int k = 0; k < 4; k++) {
            int i = k;
            Check.due("a", () -> forge.cell(0, 512 + i), zero[i]);
            Check.due("b", () -> forge.cell(1, 512 + i), 10 + i + zero[i]);
        }
        Check.due("r0", () -> forge.register(0), 12);
        Check.due("r1", () -> forge.register(1), 13);
        Check.due("r2", () -> forge.register(2), 25);
        // With one ROUND none is from the one before.
        forge.set(8, 1);
        forge.lay();
        forge.run(laid);
        Check.due("r0", () -> forge.register(0), 77);
        Check.due("r2", () -> forge.register(2), 87);
    }

    private static void rowsInTheirOrder(boolean laid) {
        LoopForge forge = Check.of("r0=d[0] d[0]=7 r1=d[0] d[0]=8 r2=d[0]", 8, 1);
        forge.lay();
        forge.run(laid);
        Check.due("before", () -> forge.register(0), 0);
        Check.due("between", () -> forge.register(1), 7);
        Check.due("behind", () -> forge.register(2), 8);
        Check.due("at last", () -> forge.cell(3, 512), 8);
    }

    private static void setsAndTakes(boolean laid) {
        for (int time : new int[] {1, 2, 3, 20}) {
            // A take just as late as the set's TIME allows, and a set as early as a take allows: in its cycle.
            LoopForge forge = Check.of("d[1*i]=i r0=d[1*i] r1=b[1*i] b[1*i]=-1 c[1*i+3]=r1 r2=c[1*i]", 3, time, 5, 8, 7, 16);
            forge.set(8, 9);
            Check.same("laid", forge.lay() > 0, true);
            Check.due("set, take", () -> forge.row(1, 0) - forge.row(0, 0), time);
            Check.due("take, set", () -> forge.row(3, 0) - forge.row(2, 0), 0);
            forge.run(laid);
            Check.due("r0", () -> forge.register(0), 8);
            Check.due("r1", () -> forge.register(1), 520 * 520 + 3);
            Check.due("r2", () -> forge.register(2), 517 * 517 + 3);
            Check.due("b", () -> forge.cell(1, 520), -1);
            Check.due("b behind", () -> forge.cell(1, 521), 521 * 521 + 3);
            Check.due("c", () -> forge.cell(2, 523), 520 * 520 + 3);
            Check.due("c before", () -> forge.cell(2, 514), 5 - 514);
        }
    }

    private static void setsOfOneInt(boolean laid) {
        for (int time : new int[] {1, 2, 20}) {
            // The later ROW of a ROUND, and the later ROUND of a ROW, is what stays.
            LoopForge forge = Check.of("a[0]=i a[0]=r9 b[1*i]=i b[1*i-2]=r9 c[0]=i", 3, time, 5, 8, 7, 16);
            forge.begin(9, -5);
            Check.same("laid", forge.lay() > 0, true);
            forge.run(laid);
            Check.due("a", () -> forge.cell(0, 512), -5);
            Check.due("b", () -> forge.cell(1, 512), -5);
            Check.due("b", () -> forge.cell(1, 525), -5);
            Check.due("b", () -> forge.cell(1, 526), 14);
            Check.due("b", () -> forge.cell(1, 510), -5);
            Check.due("c", () -> forge.cell(2, 512), 15);
        }
    }

    private static void longSpans(boolean laid) {
        // Values in 128 rotating places, most of them alive over many ROUNDS.
        LoopForge forge = Check.of("r1=i*i r2=r1+1 r3=r2+1 r4=r3+i r5=r4+1 r6=r5+1 r7=r6+r5 r8=r7+r4 d[1*i]=r8",
                0, 18, 4, 8, 7, 16, 8, 64);
        forge.lay();
        Check.due("size", () -> forge.count(11), 128);
        forge.run(laid);
        for (int k = 0; k < 64; k++) {
            int i = k;
            int four = i * i + 2 + i;
            Check.due("d of " + i, () -> forge.cell(3, 512 + i), 3 * four + 3);
        }
        // What a ROW gave in the last ROUND is not lost behind those that begin their first ROUND later.
        int four = 63 * 63 + 65;
        int[] due = {0, 63 * 63, four - 64, four - 63, four, four + 1, four + 2, 2 * four + 3, 3 * four + 3};
        for (int k = 0; k < due.length; k++) {
            int r = k;
            Check.due("register " + r, () -> forge.register(r), due[r]);
        }
    }

    /** One SPAN in as many places as ROUNDS of it are alive: 20 of it, and each value is the right one. */
    private static void oneLongSpan(boolean laid) {
        LoopForge forge = Check.of("r0=i*i a[1*i]=5 r1=a[1*i] a[1*i]=r0", 3, 20, 5, 8, 1, 1, 8, 64);
        Check.due("lay", forge::lay, 1);
        Check.due("size", () -> forge.count(11), 20);
        forge.run(laid);
        for (int k = 0; k < 64; k++) {
            int i = k;
            Check.due("a of " + i, () -> forge.cell(0, 512 + i), i * i);
        }
        Check.due("r1", () -> forge.register(1), 5);
    }

    /** 48 ROWS, 64 ROUNDS: each ROW adds one to what the one before set. */
    private static void fullLoops(boolean laid) {
        StringBuilder text = new StringBuilder("r0=r31+1 ");
        for (int x = 1; x < 32; x++) {
            text.append("r" + x + "=r" + (x - 1) + "+1 ");
        }
        for (int x = 0; x < 16; x++) {
            text.append("d[1*i+" + 64 * (x % 4) + "]=r" + (2 * x + 1) + " ");
        }
        LoopForge forge = Check.of(text.toString(), 8, 64);
        Check.due("rows", () -> forge.count(0), 48);
        Check.due("lay", forge::lay, 32);
        int cycles = forge.count(9) + 1 + 63 * 32;
        Check.due("run", () -> forge.run(laid), laid ? cycles : 48 * 64);
        for (int k = 0; k < 32; k++) {
            int r = k;
            Check.due("register " + r, () -> forge.register(r), 63 * 32 + r + 1);
        }
        for (int k = 0; k < 64; k++) {
            int i = k;
            Check.due("d of " + i, () -> forge.cell(3, 512 + i), 32 * i + 26);
            Check.due("d of " + i, () -> forge.cell(3, 704 + i), 32 * i + 32);
        }
    }

    /** The first one that was placed lost cycle 0 and none got it back: the run begins with the least all the same. */
    private static void theLeastIsTakenFromAll(boolean laid) {
        LoopForge forge = Check.of("r0=r1*2 r1=r1*3 d[1*i]=r0 r2=d[1*i]", 8, 20);
        forge.begin(1, 1);
        Check.due("lay", forge::lay, 3);
        Check.due("r0", () -> forge.row(0, 0), 1);
        Check.due("r1", () -> forge.row(1, 0), 0);
        Check.due("the take, just behind the set", () -> forge.row(3, 0) - forge.row(2, 0), 1);
        forge.run(laid);
        for (int k = 0; k < 20; k++) {
            int i = k;
            Check.due("d of " + i, () -> forge.cell(3, 512 + i), 2 * power(3, i));
        }
        Check.due("r0", () -> forge.register(0), 2 * power(3, 19));
        Check.due("r1", () -> forge.register(1), power(3, 20));
        Check.due("r2", () -> forge.register(2), 2 * power(3, 19));
    }

    private static int power(int base, int times) {
        int all = 1;
        for (int k = 0; k < times; k++) {
            all *= base;
        }
        return all;
    }

    private static void bothTellTheSame() {
        String text = "r0=a[1*i] r1=a[1*i-2] r2=r0*r1 r3=r3+r2 a[1*i+1]=r3 b[1*i]=r2 b[1*i-3]=i r4=max(r5 r3) r5=r4^r0";
        for (int n : new int[] {1, 2, 3, 40, 64}) {
            LoopForge forge = Check.of(text, 3, 4, 8, n);
            forge.begin(3, 1234567);
            forge.begin(5, -1);
            forge.lay();
            forge.run(false);
            int[] seen = seen(forge);
            // Another run between, so that nothing of the first one is left.
            forge.begin(3, 5);
            forge.run(true);
            forge.begin(3, 1234567);
            forge.run(true);
            Check.same("rounds " + n, java.util.Arrays.toString(seen(forge)), java.util.Arrays.toString(seen));
        }
    }

    /** All registers, and the ints of a and b around those that the ROWS have. */
    private static int[] seen(LoopForge forge) {
        int[] all = new int[32 + 160];
        for (int r = 0; r < 32; r++) {
            all[r] = forge.register(r);
        }
        for (int k = 0; k < 80; k++) {
            all[32 + k] = forge.cell(0, 505 + k);
            all[112 + k] = forge.cell(1, 505 + k);
        }
        return all;
    }
}
