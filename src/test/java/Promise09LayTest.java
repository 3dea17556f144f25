/** Promise 9: lay, with what LAYING says. */
public final class Promise09LayTest {
    public static void main(String[] args) {
        refusedWithoutALoop();
        tellsTheDistance();
        leavesTheRest();
        beginsWithTheGreaterLeast();
        goesUpTo200();
        notLaid();
        theGreatestHeightGoesFirst();
        ofSeveralTheFirst();
        earliest();
        theFirstCycleWithRoom();
        roomInEachGroup();
        withoutRoomEarliest();
        withoutRoomTheLatestAnd1();
        theLastRowOfTheGroupGivesWay();
        groupsInTheirOrder();
        brokenWaitsLoseCycles();
        theLeastIsTakenFromAll();
        triesAre8ForEachRow();
        theNextDistanceBeginsAnew();
        needUpTo96();
        sizeUpTo128();
        fullLoops();
        Check.ends();
    }

    /** Lays it, and looks at DISTANCE, TRIES and cycles. */
    private static void lays(LoopForge forge, int distance, int tries, int... cycles) {
        Check.due("lay", forge::lay, distance);
        Check.due("distance", () -> forge.count(6), distance);
        Check.due("tries", () -> forge.count(8), tries);
        for (int k = 0; k < cycles.length; k++) {
            int x = k;
            Check.due("cycle of row " + x, () -> forge.row(x, 0), cycles[x]);
        }
    }

    private static void refusedWithoutALoop() {
        States.refusedState("lay", LoopForge::lay, States.WITHOUT_LOOP);
    }

    private static void tellsTheDistance() {
        LoopForge forge = Check.of("r0=r0*1");
        for (int k = 0; k < 3; k++) {
            lays(forge, 3, 1, 0);
        }
        forge.set(1, 7);
        lays(forge, 7, 1, 0);
        Check.read(forge, "r0=r0+1");
        lays(forge, 1, 1, 0);
    }

    private static void leavesTheRest() {
        States.onlyTells("lay again", LoopForge::lay, States.UNLAID, States.LAID, States.RUN_AS_LAID, States.RUN_TAKEN);
        for (States state : States.WITH_LOOP) {
            LoopForge forge = state.make();
            String before = States.loopSeen(forge) + States.runSeen(forge);
            forge.lay();
            States.alike("behind lay, " + state, States.loopSeen(forge) + States.runSeen(forge), before);
            Check.due("bytes", () -> forge.count(2), States.WAITING.length());
            Check.due("begin", () -> forge.begin(3, 0), 17);
            Check.due("set", () -> forge.set(8, 1), 10);
        }
    }

    private static void beginsWithTheGreaterLeast() {
        // By units 3, by circles 1; by units 1, by circles 3; both 3.
        lays(Check.of("r0=1*1 r1=1*1 r2=1*1"), 3, 3, 0, 1, 2);
        lays(Check.of("r0=r0*1"), 3, 1, 0);
        lays(Check.of("r0=r0*1 r1=1*1 r2=1*1"), 3, 3, 0, 1, 2);
    }

    private static void goesUpTo200() {
        LoopForge at = Check.of(States.circle(10), 1, 20);
        lays(at, 200, 10, 0, 20, 40, 60, 80, 100, 120, 140, 160, 180);
        Check.due("stages", () -> at.count(7), 1);
        // One cycle more in the circle, by another ROW of TIME 1.
        LoopForge above = Check.of(States.circle(10).replace("r0 = r9 *", "r0 = r10 *") + "r10 = r9 + 1", 1, 20);
        Check.due("least by circles", () -> above.count(5), 201);
        Check.due("lay", above::lay, 0);
        above.set(1, 19);
        Check.due("least by circles", () -> above.count(5), 191);
        Check.due("lay", above::lay, 191);
        LoopForge far = Check.of(States.circle(32), 1, 20);
        Check.due("lay of 640", far::lay, 0);
        // A circle of 200 without any slack, in which a take and a set must begin in one cycle: at 200 only two can.
        LoopForge tight = Check.of("r0=a[0] a[0]=5 r1=a[0] r2=r1*1 r3=r2*1 r4=r3*1 r5=r4*1 r6=r5*1 r7=r6*1 r8=r7*1 a[0]=r8",
                1, 20, 2, 20, 3, 20);
        Check.due("least by circles", () -> tight.count(5), 200);
        Check.due("lay with one", tight::lay, 0);
        Check.due("distance", () -> tight.count(6), 0);
        tight.set(5, 2);
        lays(tight, 200, 11, 0, 0, 20, 40, 60, 80, 100, 120, 140, 160, 180);
        tight.set(5, 1);
        tight.set(1, 19);
        lays(tight, 194, 11, 0, 1, 21, 41, 60, 79, 98, 117, 136, 155, 174);
    }

    private static void notLaid() {
        LoopForge forge = States.UNLAID.make();
        for (int k = 0; k < 3; k++) {
            Check.due("lay", forge::lay, 0);
            Check.due("distance", () -> forge.count(6), 0);
            Check.state("row", () -> forge.row(0, 0));
            Check.state("run as laid", () -> forge.run(true));
            Check.due("run as written", () -> forge.run(false), 110);
        }
        forge.set(1, 1);
        Check.due("lay", forge::lay, 11);
        // What was laid before does not stand behind one that is not.
        forge.set(1, 20);
        Check.due("lay", forge::lay, 0);
        Check.state("row", () -> forge.row(0, 0));
    }

    private static void theGreatestHeightGoesFirst() {
        // ROW 2 has HEIGHT 3, goes first and gets the * of cycle 0.
        lays(Check.of("r0=1*1 r1=1*1 r2=1*1 r3=r2+1"), 3, 4, 1, 2, 0, 3);
        // Over a ROUND of 3 cycles that is 0: it goes last, and what waits for it has to wait anew.
        lays(Check.of("r0=1*1 r1=1*1 r3=r2+1 r2=1*1"), 3, 5, 0, 1, 2, 2);
    }

    private static void ofSeveralTheFirst() {
        lays(Check.of("r0=1*1 r1=1*1"), 2, 2, 0, 1);
        lays(Check.of("a[1*i]=1 b[1*i]=1 c[1*i]=1"), 3, 3, 0, 1, 2);
    }

    private static void earliest() {
        // ROW 0 waits for ROW 1 over one ROUND: 0 and 1 less 2 is below 0, and is 0.
        lays(Check.of("r0=r1+1 r1=i+1 r2=i+r1"), 2, 3, 0, 0, 1);
        lays(Check.of("a[1*i]=1 a[1*i-1]=1"), 2, 2, 0, 1);
        // Of several WAITS the latest: 4 behind the take, 3 behind the *.
        lays(Check.of("r0=a[0] r1=1*1 r2=r0+r1"), 1, 3, 0, 0, 4);
        lays(Check.of("r0=a[0] r1=1*1 r2=r0+r1", 2, 2), 1, 3, 0, 0, 3);
    }

    private static void theFirstCycleWithRoom() {
        // Of DISTANCE cycles the last one.
        lays(Check.of("r0=1*i r1=1*i r2=1*i r3=1*i"), 4, 4, 0, 1, 2, 3);
        // From EARLIEST on: 4 is of the REST of 0, so that the set begins at 5.
        lays(Check.of("r0=a[1*i] b[1*i]=r0"), 2, 2, 0, 5);
        lays(Check.of("r0=a[1*i] b[1*i]=r0", 2, 5), 2, 2, 0, 5);
    }

    private static void roomInEachGroup() {
        // WIDTH, reckoning, places and *: as many as can begin do, the next one does not.
        lays(Check.of("r0=1+1 r1=1+1 r2=1+1 r3=1+1 r4=1+1", 4, 8), 2, 5, 0, 0, 0, 0, 1);
        lays(Check.of("r0=1+1 r1=1-1 r2=1+1 r3=1-1 r4=1+1", 4, 3), 2, 5, 0, 0, 0, 1, 1);
        lays(Check.of("r0=a[0] b[1*i]=1 r1=c[0]", 5, 2), 2, 3, 0, 0, 1);
        lays(Check.of("r0=1*1 r1=1*1 r2=1*1", 4, 8, 6, 2), 2, 3, 0, 0, 1);
        // A * is one of reckoning, too.
        lays(Check.of("r0=1*1 r1=1+1 r2=1+1", 6, 8), 2, 3, 0, 0, 1);
        // All 16 begin in one cycle of the table, but the second set of an int 1 later.
        LoopForge full = Check.of("r0=1+1 r1=1+1 r2=1+1 r3=1+1 r4=1*1 r5=1*1 r6=1*1 r7=1*1 r8=a[0] r9=a[0] r10=a[0] r11=a[0]"
                + " b[1*i]=1 b[1*i]=1 c[1*i]=1 d[1*i]=1", 4, 8, 5, 8, 6, 8, 7, 16);
        lays(full, 1, 16, 0, 0, 0, 0, 0, 0, 0, 0, 0, 0, 0, 0, 0, 1, 0, 0);
    }

    private static void withoutRoomEarliest() {
        // The other * finds no room at 0 (both +) nor at 1 (a *): it goes to 0.
        lays(Check.of("r0=1+1 r1=i-1 r2=i*1 r3=i*1"), 2, 5, 0, 1, 1, 0);
    }

    private static void withoutRoomTheLatestAnd1() {
        // ROW 2 has had cycle 1, is not above it, and goes to 2.
        lays(Check.of("r0=i+1 r1=1+i r2=i*i r3=1*r1"), 2, 7, 0, 1, 2, 3);
        // EARLIEST is just the latest one.
        lays(Check.of("r0=1+1 r1=1+i r2=r1*i r3=i*r1"), 2, 7, 0, 1, 2, 3);
        // EARLIEST is above the latest one.
        lays(Check.of("r0=r0+i r1=i-1 r2=i+r2 r3=1*1 r4=r5*i r5=r3*i"), 3, 23, 0, 1, 2, 1, 11, 9);
        // The latest, not the first one that it had.
        lays(Check.of("r0=1+1 r1=r1+i r2=i*i r3=r0*1 r4=r3*i"), 3, 11, 0, 1, 1, 3, 8);
        // The latest, not the greatest one.
        lays(Check.of("r0=r1+1 r1=r2*i r2=1+1 r3=r6*i r4=r2*1 r5=r2+i r6=r0*1"), 4, 15, 1, 0, 0, 1, 3, 2, 2);
    }

    private static void theLastRowOfTheGroupGivesWay() {
        // Of both + at 0 the last one, and only that one.
        lays(Check.of("r0=1+1 r1=i-1 r2=i*1 r3=i*1"), 2, 5, 0, 1, 1, 0);
        lays(Check.of("r0=i*1 r1=1+1 r2=i-1 r3=i*1"), 2, 4, 0, 0, 1, 1);
        // ROW 0 got its cycle last, but ROW 1 is the last one.
        lays(Check.of("r0=1+1 r1=a[0] r2=i*r1 r3=1*i", 7, 2), 2, 5, 0, 1, 5, 0);
        // ROW 0 has the greater cycle, 2, but ROW 3 is the last one.
        lays(Check.of("r0=1+r3 r1=i*1 r2=i*1 r3=a[1]", 7, 2), 2, 6, 4, 1, 0, 1);
    }

    private static void groupsInTheirOrder() {
        // Without room in one group alone: WIDTH (the set gives way, and goes to 1), reckoning, places, *.
        lays(Check.of("r0=i+i a[1]=r3 r1=i*i r2=1*i", 7, 2), 2, 5, 0, 1, 1, 0);
        lays(Check.of("r0=1+1 r1=i+1 r2=1*1 r3=1*i"), 2, 5, 0, 1, 1, 0);
        lays(Check.of("r0=i+i r1=r1+1 r2=a[1] a[1*i]=i", 7, 2), 2, 7, 0, 1, 2, 3);
        lays(Check.of("r0=1-i r1=i+1 r2=1*1 r3=1*r1"), 2, 7, 0, 1, 2, 3);
        lays(Check.of("r0=r1*i r1=1*1 r2=i-i r3=i+i r4=1+1 r5=1*r2"), 3, 11, 3, 2, 0, 1, 2, 1);
    }

    private static void brokenWaitsLoseCycles() {
        // ROW 1 takes the * from ROW 0 at 0 .. and back: ROW 0 waits over a ROUND for ROW 1.
        lays(Check.of("r0=r1*1 r1=r1*1"), 3, 3, 1, 0);
        // A WAIT that holds to the cycle is not broken.
        lays(Check.of("a[1]=i a[1]=i"), 2, 2, 0, 1);
    }

    private static void theLeastIsTakenFromAll() {
        LoopForge forge = Check.of("r0=r1*1 r1=r1*1");
        lays(forge, 3, 3, 1, 0);
        Check.due("the greatest cycle", () -> forge.count(9), 1);
        Check.due("begin of the span", () -> forge.row(1, 3), 3);
        Check.due("end of the span", () -> forge.row(1, 4), 4);
        Check.due("cycles", () -> forge.run(true), 49);
    }

    private static void triesAre8ForEachRow() {
        // The 40th of 40 places the last one.
        LoopForge last = Check.of("a[1*i]=r1 a[1*i+2]=r1 r0=a[1] a[0]=i r1=a[1*i-3]");
        lays(last, 6, 40, 0, 3, 4, 1, 2);
        lays(Check.of("a[0]=r2 r0=i+r2 r1=a[1*i-2] a[1*i]=1 r2=a[1*i]", 7, 1), 6, 40);
        // Both take each other's cycle at 5, for the take has to begin before the set, and not 1 before: all 16 TRIES.
        lays(Check.of("r0=a[0] a[0]=r1", 3, 5), 6, 2, 0, 1);
        lays(Check.of("r0=r3*1 r1=r2*1 r2=r0*1 r3=r0*1"), 7, 4, 0, 1, 3, 4);
        // The 57th would do at DISTANCE 7, and at 8, but there are 56.
        LoopForge seven = Check.of("a[0]=i a[1*i-1]=r2 a[0]=1 a[0]=1 r0=a[1*i+2] r1=i+1 r2=a[1*i-3]", 4, 3);
        Check.due("least by circles", () -> seven.count(5), 7);
        lays(seven, 8, 7, 0, 1, 2, 3, 4, 0, 5);
        lays(Check.of("r0=a[1*i+2] a[1*i-1]=1 a[1]=r2 a[1*i+3]=i r1=a[1] a[1]=1 r2=a[1*i]"), 9, 7, 4, 0, 1, 5, 2, 3, 6);
    }

    private static void theNextDistanceBeginsAnew() {
        // At 1 there are too many registers; at 2 neither cycles nor TRIES of 1 are left.
        LoopForge forge = Check.of("r0=i+1 r1=r0+1 r2=r1+1 r3=r2+1 r4=r3+1 r5=r4+1 r6=r5+1 r7=r6+r0", 0, 20, 4, 8, 7, 16);
        lays(forge, 2, 8, 0, 20, 40, 60, 80, 100, 120, 140);
        // The same object lays another loop as a new one does.
        LoopForge again = Check.of("r0=a[1*i+2] a[1*i-1]=1 a[1]=r2 a[1*i+3]=i r1=a[1] a[1]=1 r2=a[1*i]");
        again.lay();
        Check.read(again, "r0=1+1 r1=i-1 r2=i*1 r3=i*1");
        lays(again, 2, 5, 0, 1, 1, 0);
    }

    /** At DISTANCE 1 its NEED is (rows - 2) * (time + 1) + 1: the last ROW uses the first, too. */
    private static LoopForge longSpan(int rows, int time) {
        StringBuilder text = new StringBuilder("r0=i+1");
        for (int x = 1; x < rows; x++) {
            text.append(" r" + x + "=r" + (x - 1) + "-" + (x == rows - 1 ? "r0" : "1"));
        }
        return Check.of(text.toString(), 0, time, 4, 8, 7, 16);
    }

    private static void needUpTo96() {
        LoopForge at = longSpan(7, 18);
        lays(at, 1, 7);
        Check.due("need", () -> at.count(10), 96);
        Check.due("size", () -> at.count(11), 96);
        // 97 in 97 places would do for SIZE.
        LoopForge above = longSpan(8, 15);
        lays(above, 2, 8);
        Check.due("need", () -> above.count(10), 49);
        lays(longSpan(8, 14), 1, 8);
    }

    private static void sizeUpTo128() {
        LoopForge at = Check.of("r1=i+1 r2=r1+1 r3=r2+1 r4=r3+1 r5=r4+1 r6=r5+1 r7=r6+r5 r8=r7+r4", 0, 18, 4, 8, 7, 16);
        lays(at, 1, 8);
        Check.due("need", () -> at.count(10), 79);
        Check.due("size", () -> at.count(11), 128);
        // At DISTANCE 1 NEED is 94, but SIZE would be 129.
        LoopForge above = Check.of("r1=i+1 r2=r1+1 r3=r2+1 r4=r3*1 r5=r4+1 r6=r5*1 r7=r6+r4 r8=r7+r3",
                0, 20, 1, 9, 4, 8, 6, 8, 7, 16);
        lays(above, 2, 8);
        Check.due("need", () -> above.count(10), 49);
        Check.due("size", () -> above.count(11), 65);
        // Two of 41 beside short ones that leave no gap of more than 19 between them.
        LoopForge far = Check.of("r1=i+1 r2=r1+1 r3=r2+1 r4=r3+1 r5=r4+1 r6=r5+1 r7=r6+r5 r8=r7+r4", 0, 20, 4, 8, 7, 16);
        lays(far, 2, 8);
    }

    private static void fullLoops() {
        StringBuilder text = new StringBuilder();
        for (int x = 0; x < 48; x++) {
            text.append(x < 32 ? "r" + x + "=i+1 " : "d[1*i+" + 70 * (x % 4) + "]=i ");
        }
        LoopForge forge = Check.of(text.toString());
        Check.due("least by units", () -> forge.count(4), 16);
        Check.due("lay", forge::lay, 16);
        Check.due("tries", () -> forge.count(8), 48);
        // 16 of each: the second half of the * finds both + in each cycle that has no * yet.
        text.setLength(0);
        for (int x = 0; x < 48; x++) {
            text.append(x < 16 ? "r" + x + "=i+1 " : x < 32 ? "r" + x + "=i*1 " : "a[1*i]=i ");
        }
        LoopForge back = Check.of(text.toString());
        lays(back, 16, 84);
        LoopForge one = Check.of("a[1*i]=1");
        lays(one, 1, 1, 0);
    }
}
