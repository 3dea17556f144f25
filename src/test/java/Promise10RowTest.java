/** Promise 10: row, with HEIGHTS, SPANS and OFFSETS. */
public final class Promise10RowTest {
    private static final int CYCLE = 0;
    private static final int HEIGHT = 1;
    private static final int OFFSET = 2;
    private static final int BEGIN = 3;
    private static final int END = 4;

    public static void main(String[] args) {
        refusedIfItIsNotLaid();
        refusesRowsThatAreNone();
        refusesOtherWhats();
        theFirstExceptionThatFits();
        onlyTells();
        cycles();
        heights();
        rowsWithoutSpans();
        spansOfItself();
        beginsByTimes();
        endsWithTheLastUse();
        endsOverRounds();
        needOfEachRound();
        notWithItselfOfAnotherRound();
        needOfOneCycle();
        withoutSpansSizeIs1();
        offsetsByBegins();
        ofSeveralByRows();
        theLeastOffset();
        spansThatTouch();
        placesGoAround();
        sizeAboveNeed();
        Check.ends();
    }

    private static LoopForge laid(String text, int... settings) {
        LoopForge forge = Check.of(text);
        for (int k = 0; k < settings.length; k += 2) {
            forge.set(settings[k], settings[k + 1]);
        }
        forge.lay();
        return forge;
    }

    private static void rows(LoopForge forge, int what, int... due) {
        for (int k = 0; k < due.length; k++) {
            int x = k;
            Check.due("row " + x + ", " + what, () -> forge.row(x, what), due[x]);
        }
        Check.bounds("row " + due.length, () -> forge.row(due.length, what));
    }

    private static void needAndSize(LoopForge forge, int need, int size) {
        Check.due("need", () -> forge.count(10), need);
        Check.due("size", () -> forge.count(11), size);
    }

    private static void refusedIfItIsNotLaid() {
        for (int k = 0; k <= 4; k++) {
            int what = k;
            States.refusedState("row 0, " + what, forge -> forge.row(0, what), States.WITHOUT_LAYING);
        }
    }

    private static void refusesRowsThatAreNone() {
        for (int k : new int[] {-1, 5, 6, 48, Integer.MIN_VALUE, Integer.MAX_VALUE}) {
            int x = k;
            for (int n = 0; n <= 4; n++) {
                int what = n;
                States.refusedBounds("row " + x + ", " + what, forge -> forge.row(x, what), States.WITH_LAYING);
            }
        }
        LoopForge one = laid("r0=i+1");
        rows(one, CYCLE, 0);
        StringBuilder text = new StringBuilder();
        for (int x = 0; x < 48; x++) {
            text.append("a[1*i+" + x + "]=i ");
        }
        LoopForge full = laid(text.toString(), 8, 1);
        Check.due("row 47", () -> full.row(47, CYCLE), 47);
        Check.bounds("row 48", () -> full.row(48, CYCLE));
    }

    private static void refusesOtherWhats() {
        for (int k : new int[] {-1, 5, 6, 256, Integer.MIN_VALUE, Integer.MAX_VALUE}) {
            int what = k;
            States.refusedArgument("row 0, " + what, forge -> forge.row(0, what), States.WITH_LAYING);
            States.refusedArgument("row 4, " + what, forge -> forge.row(4, what), States.WITH_LAYING);
        }
    }

    private static void theFirstExceptionThatFits() {
        States.refusedState("row -1, -1", forge -> forge.row(-1, -1), States.WITHOUT_LAYING);
        States.refusedState("row -1, 0", forge -> forge.row(-1, 0), States.WITHOUT_LAYING);
        States.refusedState("row 0, 5", forge -> forge.row(0, 5), States.WITHOUT_LAYING);
        States.refusedBounds("row -1, -1", forge -> forge.row(-1, -1), States.WITH_LAYING);
        States.refusedBounds("row 5, 5", forge -> forge.row(5, 5), States.WITH_LAYING);
    }

    private static void onlyTells() {
        for (int k = 0; k <= 4; k++) {
            int what = k;
            States.onlyTells("row 1, " + what, forge -> forge.row(1, what), States.WITH_LAYING);
        }
    }

    private static void cycles() {
        LoopForge forge = laid("r0=a[1*i] r1=r0*3 r2=r1+r9 d[1*i]=r2");
        rows(forge, CYCLE, 0, 4, 7, 9);
        Check.due("the greatest", () -> forge.count(9), 9);
    }

    private static void heights() {
        rows(laid("r0=a[1*i] r1=r0*3 r2=r1+r9 d[1*i]=r2"), HEIGHT, 8, 4, 1, 0);
        // The dearest way: 4 and 3 over the *, not 4.
        rows(laid("r0=a[0] r1=r0*1 r2=r0+r1"), HEIGHT, 7, 3, 0);
        // 3 and 3 in a circle of DISTANCE 6: from ROW 1 on 3 less 6, and 3.
        rows(laid("r0=r1*1 r1=r0*1"), HEIGHT, 3, 0);
        // Over a ROUND of 1 cycle 3 is 2; of 2 cycles 1; of 3 and 4 it is 0 and below, which is 0.
        rows(laid("r0=r1+1 r1=i*1"), HEIGHT, 0, 2);
        rows(laid("r0=r1+1 r1=i*1", 7, 1), HEIGHT, 0, 1);
        rows(laid("r0=r1+1 r1=i*1 a[1*i]=1", 7, 1), HEIGHT, 0, 0, 0);
        rows(laid("r0=r1+1 r1=i*1 a[1*i]=1 b[1*i]=1", 7, 1), HEIGHT, 0, 0, 0, 0);
        // Over two ROUNDS the set's TIME of 5 is 1 at DISTANCE 2.
        rows(laid("a[1*i]=1 r0=a[1*i-2]", 3, 5), HEIGHT, 1, 0);
        // It is that of the DISTANCE at which it was LAID: of 3, for at 2 there are too many registers.
        LoopForge later = laid("r0=i+1 r1=r0+1 r2=r1+1 r3=r2+1 r4=r3+1 r5=r4+1 r6=r5+r1 r7=r6+r0 r8=r9+1 r9=i*1",
                0, 20, 1, 5, 4, 8, 7, 16);
        Check.due("least by units", () -> later.count(4), 2);
        Check.due("distance", () -> later.count(6), 3);
        rows(later, HEIGHT, 140, 120, 100, 80, 60, 40, 20, 0, 0, 2);
    }

    private static void rowsWithoutSpans() {
        // What is not used has none, and neither has what sets an ARRAY.
        LoopForge forge = laid("r0=i+1 r1=i*1 r2=b[0] d[1*i]=r9 r3=i+1 r4=r3+1");
        for (int what : new int[] {OFFSET, BEGIN, END}) {
            for (int k : new int[] {0, 1, 2, 3, 5}) {
                int x = k;
                Check.due("row " + x + ", " + what, () -> forge.row(x, what), -1);
            }
            Check.same("row 4, " + what, forge.row(4, what) >= 0, true);
        }
    }

    private static void spansOfItself() {
        LoopForge forge = laid("r0=r0+1");
        rows(forge, BEGIN, 1);
        rows(forge, END, 1);
        rows(forge, OFFSET, 0);
        needAndSize(forge, 1, 1);
    }

    private static void beginsByTimes() {
        for (int time : new int[] {1, 20}) {
            LoopForge forge = laid("r0=i+1 r1=i*1 r2=b[0] r3=r0+r1 r4=r2+1",
                    0, time, 1, 21 - time, 2, time, 4, 8, 7, 16);
            rows(forge, CYCLE, 0, 0, 0, 20, time);
            rows(forge, BEGIN, time, 21 - time, time, -1, -1);
            rows(forge, END, 20, 20, time, -1, -1);
        }
    }

    private static void endsWithTheLastUse() {
        // ROW 0 is used by 1, 2 and 3, of which 2 begins last.
        LoopForge forge = laid("r0=i+1 r1=r0*1 r2=r0+r1 r3=r0-1", 4, 8, 7, 16);
        rows(forge, CYCLE, 0, 1, 4, 1);
        rows(forge, BEGIN, 1, 4, -1, -1);
        rows(forge, END, 4, 4, -1, -1);
    }

    private static void endsOverRounds() {
        // ROW 1 is used by ROW 0 and by itself in the next ROUND, 3 later: the greater end is that of ROW 0.
        LoopForge forge = laid("r0=r1*i r1=i*r1");
        rows(forge, CYCLE, 1, 0);
        rows(forge, BEGIN, -1, 3);
        rows(forge, END, -1, 4);
        // A use behind it in cycle 1, and one before it in cycle 0, but of the next ROUND.
        LoopForge both = laid("r0=r1+r0 r1=r1+r0");
        rows(both, CYCLE, 0, 1);
        rows(both, BEGIN, 1, 2);
        rows(both, END, 2, 3);
    }

    private static void needOfEachRound() {
        // Alive for 5 cycles: with a DISTANCE of 1 in five ROUNDS at once, of 2 in three, of 5 in one.
        String text = "r0=i+1 r1=i*1 r2=r1+r0";
        LoopForge one = laid(text, 1, 5, 4, 8);
        rows(one, BEGIN, 1, 5, -1);
        rows(one, END, 5, 5, -1);
        needAndSize(one, 6, 6);
        // ROW 0 at 1, 3, 5 and ROW 1 at 5.
        LoopForge two = laid(text, 1, 5);
        rows(two, BEGIN, 1, 5, -1);
        needAndSize(two, 4, 4);
        LoopForge five = laid("r0=i+1 r1=i*1 r2=r1+r0 r3=r3*1", 1, 5, 6, 8, 4, 8);
        Check.due("distance", () -> five.count(6), 5);
        needAndSize(five, 3, 3);
    }

    /** The only SPAN, alive in as many ROUNDS at once as its cycles on the ring: each needs a place. */
    private static void notWithItselfOfAnotherRound() {
        for (int time = 1; time <= 20; time++) {
            LoopForge forge = laid("r0=i+1 a[1*i]=5 r1=a[1*i] a[1*i]=r0", 3, time, 5, 8);
            int end = time;
            Check.due("distance", () -> forge.count(6), 1);
            rows(forge, BEGIN, 1, -1, -1, -1);
            rows(forge, END, end, -1, -1, -1);
            rows(forge, OFFSET, 0, -1, -1, -1);
            needAndSize(forge, end, end);
            // Of 3 cycles the last set begins in the first one that has room.
            LoopForge three = laid("r0=i+1 a[1*i]=5 r1=a[1*i] a[1*i]=r0", 3, time);
            Check.due("distance", () -> three.count(6), 3);
            int last = three.row(3, CYCLE);
            rows(three, END, last, -1, -1, -1);
            needAndSize(three, (last - 1) / 3 + 1, (last - 1) / 3 + 1);
        }
    }

    private static void needOfOneCycle() {
        // Two SPANS of one cycle each, in different cycles of the ring: one place for both.
        LoopForge apart = laid("r0=i+1 r1=r0+1 r2=r1+1");
        rows(apart, BEGIN, 1, 2, -1);
        rows(apart, END, 1, 2, -1);
        Check.due("distance", () -> apart.count(6), 2);
        needAndSize(apart, 1, 1);
        // At DISTANCE 1 all cycles are one on the ring.
        LoopForge one = laid("r0=i+1 r1=r0+1 r2=r1+1", 4, 8);
        Check.due("distance", () -> one.count(6), 1);
        needAndSize(one, 2, 2);
    }

    private static void withoutSpansSizeIs1() {
        needAndSize(laid("a[1*i]=1"), 0, 1);
        needAndSize(laid("r0=i+1 r1=i+1 r2=a[0]"), 0, 1);
    }

    private static void offsetsByBegins() {
        // ROW 1 begins first, and gets 0.
        LoopForge forge = laid("r0=i*r0 r1=i+r1");
        rows(forge, BEGIN, 3, 1);
        rows(forge, END, 3, 3);
        rows(forge, OFFSET, 1, 0);
        needAndSize(forge, 2, 2);
        // ROWS 2, 1, 0, 3: on the ring of 16 cycles they get 1 to 7, then 9 to 11, 12 and 13, 14 and 15.
        LoopForge falling = laid("r0=a[0] r1=i*1 r2=i+1 r3=r0+r1 r4=r3+r2");
        Check.due("distance", () -> falling.count(6), 2);
        rows(falling, BEGIN, 4, 3, 1, 6, -1);
        rows(falling, END, 5, 5, 7, 7, -1);
        rows(falling, OFFSET, 4, 3, 0, 4, -1);
        needAndSize(falling, 8, 8);
        // The same, but what begins first stands first.
        LoopForge mixed = laid("r2=i+1 r0=a[0] r1=i*1 r3=r0+r1 r4=r3+r2");
        rows(mixed, BEGIN, 1, 4, 3, 6, -1);
        rows(mixed, OFFSET, 0, 4, 3, 4, -1);
        needAndSize(mixed, 8, 8);
    }

    private static void ofSeveralByRows() {
        LoopForge forge = laid("r0=r0+r1 r1=1-1");
        rows(forge, BEGIN, 1, 1);
        rows(forge, OFFSET, 0, 1);
        LoopForge three = laid("r0=r0+1 r1=r1+1 r2=r2+1", 4, 3);
        rows(three, OFFSET, 0, 1, 2);
        needAndSize(three, 3, 3);
    }

    private static void theLeastOffset() {
        LoopForge forge = laid("r0=i*1 r1=r1+r0");
        rows(forge, BEGIN, 3, 4);
        rows(forge, END, 3, 4);
        // Both may have 0: ROUND n of ROW 1 is there when ROUND n + 1 of ROW 0 is, one place before it.
        rows(forge, OFFSET, 0, 0);
        needAndSize(forge, 2, 2);
    }

    private static void spansThatTouch() {
        // ROW 0 ends in the cycle in which ROW 1 begins: not in one place. A cycle later it could be.
        LoopForge touching = laid("r0=i+1 r1=r0+1 r2=r1+r0 r3=r3*1", 4, 8);
        rows(touching, BEGIN, 1, 2, -1, 3);
        rows(touching, END, 2, 2, -1, 3);
        rows(touching, OFFSET, 0, 1, -1, 0);
        needAndSize(touching, 2, 2);
        LoopForge apart = laid("r0=i+1 r1=r0+1 r2=r1+1 r3=r3*1", 4, 8);
        rows(apart, BEGIN, 1, 2, -1, 3);
        rows(apart, END, 1, 2, -1, 3);
        rows(apart, OFFSET, 0, 0, -1, 0);
        needAndSize(apart, 1, 1);
    }

    private static void placesGoAround() {
        // ROW 1 meets ROW 0 of its ROUND (OFFSET 0) and of the next (OFFSET -1): in 3 places 1 is left, in 2 none.
        LoopForge forge = laid("r0=r1+r0 r1=r1+r0");
        rows(forge, BEGIN, 1, 2);
        rows(forge, END, 2, 3);
        rows(forge, OFFSET, 0, 1);
        needAndSize(forge, 2, 3);
    }

    private static void sizeAboveNeed() {
        // ROWS 0, 2, 1, 3: on the ring of 15 cycles they get 1 and 2, 4 to 6, 8 and 9, 12 and 13: an OFFSET above NEED
        // less 1. Of 12 cycles the last one would wrap around onto the first, of 9 it would find no gap.
        LoopForge above = laid("r0=r1+i r1=r3+r0 r2=i+r2 r3=r1+r0");
        Check.due("distance", () -> above.count(6), 3);
        rows(above, BEGIN, 1, 2, 1, 3);
        rows(above, END, 2, 3, 3, 4);
        rows(above, OFFSET, 0, 2, 1, 3);
        needAndSize(above, 3, 5);
        LoopForge forge = laid("r1=i+1 r2=r1+1 r3=r2+1 r4=r3+1 r5=r4+1 r6=r5+1 r7=r6+r5 r8=r7+r4",
                0, 18, 4, 8, 7, 16);
        rows(forge, BEGIN, 18, 36, 54, 72, 90, 108, 126, -1);
        rows(forge, END, 18, 36, 54, 126, 108, 108, 126, -1);
        rows(forge, OFFSET, 0, 0, 0, 0, 37, 39, 22, -1);
        needAndSize(forge, 79, 128);
    }
}
