/** Promise 7: count, with both least DISTANCES. */
public final class Promise07CountTest {
    public static void main(String[] args) {
        refusesOtherWhats();
        onlyTells();
        rows();
        reasonOfTheLatestText();
        bytesOfTheTape();
        waits();
        manyWaits();
        leastByUnits();
        leastByCircles();
        nothingWithoutALoop();
        nothingWithoutALaying();
        stages();
        tries();
        Check.ends();
    }

    private static void counts(LoopForge forge, int what, int due) {
        Check.due("count " + what, () -> forge.count(what), due);
    }

    private static String many(String row, int rows) {
        StringBuilder text = new StringBuilder();
        for (int x = 0; x < rows; x++) {
            text.append(row);
        }
        return text.toString();
    }

    private static void refusesOtherWhats() {
        for (int k : new int[] {-1, 12, 13, 256, Integer.MIN_VALUE, Integer.MAX_VALUE}) {
            int what = k;
            States.refusedArgument("count " + what, forge -> forge.count(what), States.values());
        }
    }

    private static void onlyTells() {
        for (int k = 0; k <= 11; k++) {
            int what = k;
            States.onlyTells("count " + what, forge -> forge.count(what), States.values());
        }
    }

    private static void rows() {
        for (int rows : new int[] {1, 2, 47, 48}) {
            counts(Check.of(many("a[0]=i ", rows)), 0, rows);
        }
        LoopForge forge = Check.of("r0=i+1 r1=i+1");
        Check.feed(forge, "r0=i+1");
        counts(forge, 0, 2);
        forge.text();
        counts(forge, 0, 1);
        forge.text();
        counts(forge, 0, 0);
    }

    private static void reasonOfTheLatestText() {
        LoopForge forge = new LoopForge();
        counts(forge, 1, 0);
        String[] texts = {"?", "r0=i+1", "r0=i+1 r0=i+1", "r0=i+1", "r0=i+1 r0=i+1", "", "r0=i+1 r0=i+1", "r0=i+1"};
        int[] due = {1, 0, 2, 0, 2, 1, 2, 0};
        for (int k = 0; k < texts.length; k++) {
            Check.feed(forge, texts[k]);
            counts(forge, 1, k == 0 ? 0 : due[k - 1]);
            forge.text();
            counts(forge, 1, due[k]);
            // Neither set nor begin is a text.
            forge.set(0, 1 + k);
            forge.begin(0, k);
            counts(forge, 1, due[k]);
        }
    }

    private static void bytesOfTheTape() {
        LoopForge forge = new LoopForge();
        counts(forge, 2, 0);
        for (int k = 1; k <= 204; k++) {
            forge.feed(0, 0, 0, 0, 0);
            counts(forge, 2, 20 * k);
        }
        forge.end(4076);
        counts(forge, 2, 4076);
        forge.feed(0, 0, 0, 0, 0);
        counts(forge, 2, 4096);
        forge.end(1);
        counts(forge, 2, 1);
        forge.text();
        counts(forge, 2, 0);
    }

    private static void waits() {
        counts(Check.of("r0=i+1"), 3, 0);
        counts(Check.of("r0=r9+r8"), 3, 0);
        // Both sides of one ROW make one WAIT.
        counts(Check.of("r0=i+1 r1=r0+r0"), 3, 1);
        counts(Check.of("r0=r0+r0"), 3, 1);
        counts(Check.of("r0=r1+r2 r1=r2+r0 r2=r0+r1"), 3, 6);
        // USE and PLACES over as many ROUNDS are one, over others two.
        counts(Check.of("r0=a[1*i] a[1*i]=r0"), 3, 1);
        counts(Check.of("r0=a[1*i+1] a[1*i]=r0"), 3, 2);
        counts(Check.of("r0=a[1*i] r1=a[1*i]"), 3, 0);
        counts(Check.of("a[0]=1"), 3, 1);
        LoopForge once = Check.of("a[0]=1 a[0]=2");
        counts(once, 3, 4);
        once.set(8, 1);
        counts(once, 3, 1);
    }

    private static void manyWaits() {
        LoopForge forge = Check.of(many("a[0]=1 ", 48));
        counts(forge, 3, 48 * 48);
        forge.set(8, 1);
        counts(forge, 3, 48 * 47 / 2);
        forge.set(8, 2);
        counts(forge, 3, 48 * 48);
        Check.read(forge, "a[0]=1");
        counts(forge, 3, 1);
    }

    private static void leastByUnits() {
        String reckon = "r0=1+1 r1=1-1 r2=1&1 r3=1|1 r4=1^1 r5=1<<1 r6=1>>1 r7=1<1 r8=min(1 1) r9=max(1 1) ";
        String times = "r10=1*1 r11=1*1 r12=1*1 ";
        String places = "a[1*i]=1 b[1*i]=1 r13=c[1*i] r14=d[1*i] r15=d[1] ";
        LoopForge forge = Check.of(reckon + times + places);
        int[][] due = {
            // reckoning, places, *, WIDTH: the least
            {8, 8, 8, 16, 2}, {8, 8, 8, 9, 2}, {8, 8, 8, 8, 3}, {8, 8, 8, 6, 3}, {8, 8, 8, 5, 4}, {8, 8, 8, 1, 18},
            {7, 8, 8, 16, 2}, {6, 8, 8, 16, 3}, {5, 8, 8, 16, 3}, {4, 8, 8, 16, 4}, {1, 8, 8, 16, 13},
            {8, 3, 8, 16, 2}, {8, 2, 8, 16, 3}, {8, 1, 8, 16, 5},
            {8, 8, 2, 16, 2}, {8, 8, 1, 16, 3},
            {1, 1, 1, 1, 18}, {5, 2, 1, 6, 3}, {2, 1, 1, 4, 7}};
        for (int[] one : due) {
            for (int k = 0; k < 4; k++) {
                forge.set(4 + k, one[k]);
            }
            counts(forge, 4, one[4]);
        }
        counts(Check.of("r0=1+1"), 4, 1);
        LoopForge all = Check.of(many("a[0]=1 ", 48));
        counts(all, 4, 48);
        all.set(5, 8);
        all.set(7, 16);
        counts(all, 4, 6);
    }

    private static void leastByCircles() {
        counts(Check.of("r0=1+1 r1=r0*2 r2=r1*2"), 5, 1);
        counts(Check.of("r0=r0+1"), 5, 1);
        counts(Check.of("r0=r0*1"), 5, 3);
        // The last ROUND that it waits for is d before: 4 + 1 over d, once just full and once one too many.
        for (int d = 1; d <= 6; d++) {
            LoopForge forge = Check.of("r0=a[1*i-" + d + "] a[1*i]=r0");
            counts(forge, 5, (5 + d - 1) / d);
            forge.set(2, 20);
            forge.set(3, 16);
            counts(forge, 5, (36 + d - 1) / d);
            forge.set(3, 17);
            counts(forge, 5, (37 + d - 1) / d);
        }
        // Of several circles the dearest: 3 and 3 over 1, 3 over 1, 1 over 1.
        counts(Check.of("r0=r1*2 r1=r0*2 r2=r2*2 r3=r3+2"), 5, 6);
        // ROW 1 alone has 3 over 1, both together 1 and 3.
        counts(Check.of("r0=r1+1 r1=r1*r0"), 5, 4);
        // Two circles of ROW 0 that go around together are no dearer: 4 over 2, and 3 over 1.
        counts(Check.of("r0=r0*r1 r1=a[1*i-2] a[1*i]=r1"), 5, 3);
        LoopForge dearest = Check.of(dearestCircle());
        for (int what = 0; what < 4; what++) {
            dearest.set(what, 20);
        }
        counts(dearest, 5, 960);
        dearest.set(3, 19);
        counts(dearest, 5, 944);
        LoopForge great = Check.of(States.circle(32));
        great.set(1, 20);
        counts(great, 5, 640);
    }

    /** 48 ROWS in one circle over one ROUND: each third sets an int that the next one takes. */
    private static String dearestCircle() {
        StringBuilder text = new StringBuilder();
        for (int k = 0; k < 16; k++) {
            int used = k == 0 ? 31 : 2 * k - 1;
            text.append("a[" + k + "]=r" + used + " r" + 2 * k + "=a[" + k + "] r" + (2 * k + 1) + "=r" + 2 * k + "*2 ");
        }
        return text.toString();
    }

    private static void nothingWithoutALoop() {
        for (States state : States.WITHOUT_LOOP) {
            LoopForge forge = state.make();
            counts(forge, 0, 0);
            for (int what = 3; what <= 11; what++) {
                counts(forge, what, 0);
            }
        }
    }

    private static void nothingWithoutALaying() {
        for (States state : States.WITHOUT_LAYING) {
            LoopForge forge = state.make();
            for (int what = 6; what <= 11; what++) {
                counts(forge, what, 0);
            }
        }
        LoopForge forge = States.LAID.make();
        for (int what = 6; what <= 11; what++) {
            int asked = what;
            Check.same("count " + what + " of a laying", forge.count(asked) > 0, true);
        }
    }

    /** The greatest cycle / DISTANCE, and 1. */
    private static void stages() {
        for (int time = 1; time <= 9; time++) {
            LoopForge forge = Check.of("r0=a[1*i] b[1*i]=r0 r2=r2*1");
            forge.set(2, time);
            forge.set(5, 2);
            Check.due("lay", forge::lay, 3);
            counts(forge, 6, 3);
            counts(forge, 9, time);
            counts(forge, 7, 1 + time / 3);
        }
        LoopForge one = Check.of("r0=i+1");
        one.lay();
        counts(one, 9, 0);
        counts(one, 7, 1);
    }

    /** TRIES are those of the DISTANCE at which it was LAID, not of the ones before. */
    private static void tries() {
        LoopForge plain = Check.of("r0=i+1 r1=i+1 r2=i+1");
        plain.lay();
        counts(plain, 8, 3);
        LoopForge back = Check.of("r0=1+1 r1=i-1 r2=i*1 r3=i*1");
        back.lay();
        counts(back, 8, 5);
        // At DISTANCE 1 its NEED is above 96, with 8 TRIES, too.
        LoopForge later = Check.of("r0=i+1 r1=r0+1 r2=r1+1 r3=r2+1 r4=r3+1 r5=r4+1 r6=r5+1 r7=r6+r0");
        later.set(0, 20);
        later.set(4, 8);
        later.set(7, 16);
        Check.due("lay", later::lay, 2);
        counts(later, 8, 8);
    }
}
