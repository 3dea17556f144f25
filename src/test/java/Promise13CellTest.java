/** Promise 13: cell, with what ARRAYS are at first and which int a PLACE is. */
public final class Promise13CellTest {
    public static void main(String[] args) {
        refusedWithoutARun();
        refusesOtherArraysAndInts();
        theFirstExceptionThatFits();
        onlyTells();
        atFirst();
        // Each with objects of its own: what the one RUN left must not stand in for the other.
        for (boolean laid : new boolean[] {false, true}) {
            placesFromEndToEnd(laid);
            onlyThoseThatAreSet(laid);
            theLastSetStays(laid);
            eachArrayApart(laid);
        }
        Check.ends();
    }

    private static void refusedWithoutARun() {
        States.refusedState("cell 0 0", forge -> forge.cell(0, 0), States.WITHOUT_RUN);
        States.refusedState("cell 3 1023", forge -> forge.cell(3, 1023), States.WITHOUT_RUN);
    }

    private static void refusesOtherArraysAndInts() {
        for (int k : new int[] {-1, 4, 5, 256, Integer.MIN_VALUE, Integer.MAX_VALUE}) {
            int a = k;
            States.refusedBounds("cell " + a + " 0", forge -> forge.cell(a, 0), States.WITH_RUN);
            States.refusedBounds("cell " + a + " 1023", forge -> forge.cell(a, 1023), States.WITH_RUN);
        }
        for (int k : new int[] {-1, 1024, 1025, 4096, Integer.MIN_VALUE, Integer.MAX_VALUE}) {
            int j = k;
            for (int n = 0; n < 4; n++) {
                int a = n;
                States.refusedBounds("cell " + a + " " + j, forge -> forge.cell(a, j), States.WITH_RUN);
            }
            States.refusedBounds("cell -1 " + j, forge -> forge.cell(-1, j), States.WITH_RUN);
            States.refusedBounds("cell 4 " + j, forge -> forge.cell(4, j), States.WITH_RUN);
        }
    }

    private static void theFirstExceptionThatFits() {
        States.refusedState("cell -1 0", forge -> forge.cell(-1, 0), States.WITHOUT_RUN);
        States.refusedState("cell 4 0", forge -> forge.cell(4, 0), States.WITHOUT_RUN);
        States.refusedState("cell 0 -1", forge -> forge.cell(0, -1), States.WITHOUT_RUN);
        States.refusedState("cell 0 1024", forge -> forge.cell(0, 1024), States.WITHOUT_RUN);
    }

    private static void onlyTells() {
        States.onlyTells("cell 0 0", forge -> forge.cell(0, 0), States.WITH_RUN);
        States.onlyTells("cell 3 1023", forge -> forge.cell(3, 1023), States.WITH_RUN);
    }

    private static int first(int a, int j) {
        return a == 0 ? j * 7 ^ 21 : a == 1 ? j * j + 3 : a == 2 ? 5 - j : 0;
    }

    /** Each int of each ARRAY, behind RUNS that set none of them. */
    private static void atFirst() {
        for (int k = 0; k < 16; k++) {
            LoopForge forge = Check.of("r0=a[1*i]");
            forge.lay();
            forge.run(k % 2 == 1);
            for (int n = 0; n < 256; n++) {
                int a = k / 4;
                int j = 256 * (k % 4) + n;
                Check.due("cell " + a + " " + j, () -> forge.cell(a, j), first(a, j));
            }
        }
        LoopForge ends = Check.of("r0=i+1");
        ends.run(false);
        int[][] due = {{21, 7148}, {3, 1046532}, {5, -1018}, {0, 0}};
        for (int k = 0; k < 4; k++) {
            int a = k;
            Check.due("the first", () -> ends.cell(a, 0), due[a][0]);
            Check.due("the last", () -> ends.cell(a, 1023), due[a][1]);
        }
    }

    /** PLACE c * i + k is int 512 + c * i + k: from 10 to 1014. */
    private static void placesFromEndToEnd(boolean laid) {
        LoopForge forge = Check.of("d[4*i+250]=i d[-4*i-250]=i r0=b[4*i+250] r1=b[-4*i-250] c[250]=1 c[0*i-250]=2 a[0]=3");
        forge.set(8, 64);
        forge.lay();
        forge.run(laid);
        Check.due("the greatest place", () -> forge.cell(3, 1014), 63);
        Check.due("the least place", () -> forge.cell(3, 10), 63);
        Check.due("above it", () -> forge.cell(3, 1015), 0);
        Check.due("below it", () -> forge.cell(3, 9), 0);
        Check.due("of ROUND 62", () -> forge.cell(3, 1010), 62);
        Check.due("of ROUND 62", () -> forge.cell(3, 14), 62);
        Check.due("of ROUND 0", () -> forge.cell(3, 762), 0);
        Check.due("of ROUND 1", () -> forge.cell(3, 766), 1);
        Check.due("of ROUND 1", () -> forge.cell(3, 258), 1);
        Check.due("taken from the greatest", () -> forge.register(0), 1014 * 1014 + 3);
        Check.due("taken from the least", () -> forge.register(1), 103);
        Check.due("250", () -> forge.cell(2, 762), 1);
        Check.due("-250", () -> forge.cell(2, 262), 2);
        Check.due("0", () -> forge.cell(0, 512), 3);
    }

    private static void onlyThoseThatAreSet(boolean laid) {
        for (int c = -4; c <= 4; c++) {
            LoopForge forge = Check.of("a[" + c + "*i+7]=-9");
            forge.set(8, 10);
            forge.lay();
            forge.run(laid);
            for (int n = 470; n < 570; n++) {
                int j = n;
                int way = c == 0 ? 0 : (j - 519) / c;
                boolean set = c * way == j - 519 && way >= 0 && way < 10;
                Check.due("cell " + j + " by " + c, () -> forge.cell(0, j), set ? -9 : first(0, j));
            }
        }
    }

    private static void theLastSetStays(boolean laid) {
        LoopForge forge = Check.of("a[0]=i a[1*i]=r9 a[-1*i+20]=r8");
        forge.begin(8, -8);
        forge.begin(9, -9);
        forge.lay();
        forge.run(laid);
        // ROUND 15 sets PLACE 0 last; of ROW 1 and 2 the later ROUND, in ROUND 10 both, then ROW 2.
        int[] due = {15, -9, -9, -9, -9, -8, -8, -8, -8, -8, -8, -9, -9, -9, -9, -9, -8, -8, -8, -8, -8};
        for (int k = 0; k < due.length; k++) {
            int place = k;
            Check.due("place " + place, () -> forge.cell(0, 512 + place), due[place]);
        }
        Check.due("place 21", () -> forge.cell(0, 533), first(0, 533));
    }

    private static void eachArrayApart(boolean laid) {
        LoopForge forge = Check.of("a[1]=1 b[2]=2 c[3]=3 d[4]=4");
        forge.lay();
        forge.run(laid);
        for (int n = 0; n < 24; n++) {
            int a = n / 6;
            int k = n % 6;
            Check.due("cell " + a + " of place " + k, () -> forge.cell(a, 512 + k), k == a + 1 ? k : first(a, 512 + k));
        }
    }
}
