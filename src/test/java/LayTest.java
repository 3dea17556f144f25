/** Promises 7 (6 to 11), 9 and 10: count, lay and row. */
public final class LayTest {
    public static void main(String[] args) {
        aPlainLoop();
        cyclesAreTakenBack();
        spansOverRounds();
        withoutSpans();
        notLaid();
        needHasItsLimit();
        needBoundsTheDistance();
        wrongInputs();
        Check.ends();
    }

    private static void counts(LoopForge forge, int... due) {
        for (int k = 0; k < due.length; k++) {
            int what = k + 6;
            Check.due("count " + what, () -> forge.count(what), due[k]);
        }
    }

    private static void rows(LoopForge forge, int what, int... due) {
        for (int k = 0; k < due.length; k++) {
            int x = k;
            Check.due("row " + x + ", " + what, () -> forge.row(x, what), due[k]);
        }
    }

    private static void aPlainLoop() {
        LoopForge forge = Check.of("r0 = a[1 * i] r1 = r0 * 3 r2 = r1 + r9 d[1 * i] = r2");
        counts(forge, 0, 0, 0, 0, 0, 0);
        Check.due("lay", forge::lay, 2);
        // The set waits until the REST of the take is free: from 8 to 9.
        counts(forge, 2, 5, 4, 9, 2, 3);
        rows(forge, 0, 0, 4, 7, 9);
        rows(forge, 1, 8, 4, 1, 0);
        rows(forge, 2, 0, 0, 0, -1);
        rows(forge, 3, 4, 7, 8, -1);
        rows(forge, 4, 4, 7, 9, -1);
        Check.due("lay again", forge::lay, 2);
        counts(forge, 2, 5, 4, 9, 2, 3);
    }

    private static void cyclesAreTakenBack() {
        LoopForge forge = Check.of("r0=i+1 r1=i+2 r2=i*3 r3=i*4");
        // Both + begin at 0, the first * at 1; the other * finds no room and takes 0 from the last ROW there.
        Check.due("lay", forge::lay, 2);
        counts(forge, 2, 1, 5, 1, 0, 1);
        rows(forge, 0, 0, 1, 1, 0);
        rows(forge, 1, 0, 0, 0, 0);
    }

    private static void spansOverRounds() {
        LoopForge forge = Check.of("r0 = r1 + 1 r1 = r0 + 1 r2 = r2 * 2");
        forge.set(0, 2);
        // The circle of 0 and 1 has 4 cycles, that of 2 has 3.
        Check.due("lay", forge::lay, 4);
        rows(forge, 1, 2, 0, 0);
        rows(forge, 0, 0, 2, 0);
        rows(forge, 3, 2, 4, 3);
        rows(forge, 4, 2, 4, 4);
        rows(forge, 2, 0, 1, 0);
        counts(forge, 4, 1, 3, 2, 2, 2);
    }

    private static void withoutSpans() {
        LoopForge forge = Check.of("a[1*i] = i");
        Check.due("lay", forge::lay, 1);
        counts(forge, 1, 1, 1, 0, 0, 1);
        rows(forge, 2, -1);
        rows(forge, 3, -1);
        rows(forge, 4, -1);
    }

    /** Each ROW uses the one before; the first the last. */
    private static String circle(int rows) {
        StringBuilder text = new StringBuilder("r0 = r" + (rows - 1) + " * 3 ");
        for (int x = 1; x < rows; x++) {
            text.append("r" + x + " = r" + (x - 1) + " * 3 ");
        }
        return text.toString();
    }

    private static void notLaid() {
        LoopForge forge = Check.of(circle(10));
        forge.set(1, 20);
        Check.due("lay at 200", forge::lay, 200);
        counts(forge, 200, 1, 10, 180);
        LoopForge above = Check.of(circle(11));
        above.set(1, 20);
        Check.due("least by circles", () -> above.count(5), 220);
        Check.due("lay above 200", above::lay, 0);
        Check.due("lay again", above::lay, 0);
        counts(above, 0, 0, 0, 0, 0, 0);
        Check.state("row", () -> above.row(0, 0));
        Check.state("run", () -> above.run(true));
        Check.due("run as written", () -> above.run(false), 176);
        above.set(1, 18);
        Check.due("lay at 198", above::lay, 198);
        LoopForge next = Check.of(circle(11).replace("r10 = r9 *", "r10 = r9 +"));
        next.set(1, 20);
        Check.due("least by circles", () -> next.count(5), 201);
        Check.due("lay at 201", next::lay, 0);
    }

    /** At DISTANCE 1 its NEED is (rows - 2) * (time + 1) + 1: the last ROW uses the first, too. */
    private static LoopForge longSpan(int rows, int time) {
        StringBuilder text = new StringBuilder("r0 = i + 1 ");
        for (int x = 1; x < rows; x++) {
            text.append("r" + x + " = r" + (x - 1) + " - " + (x == rows - 1 ? "r0 " : "1 "));
        }
        LoopForge forge = Check.of(text.toString());
        forge.set(0, time);
        forge.set(4, 8);
        forge.set(7, 16);
        return forge;
    }

    private static void needHasItsLimit() {
        LoopForge at = longSpan(7, 18);
        Check.due("need of 96", at::lay, 1);
        counts(at, 1, 109, 7, 108, 96);
        LoopForge above = longSpan(8, 15);
        Check.due("need of 97", above::lay, 2);
    }

    private static void needBoundsTheDistance() {
        StringBuilder text = new StringBuilder("r0 = i + 1 ");
        for (int x = 1; x < 31; x++) {
            text.append("r" + x + " = r" + (x - 1) + " ^ 3 ");
        }
        text.append("r31 = r30 - r0");
        LoopForge forge = Check.of(text.toString());
        forge.set(0, 20);
        forge.set(4, 8);
        forge.set(7, 16);
        Check.due("least by units", () -> forge.count(4), 4);
        int distance = forge.lay();
        Check.same("above the least", distance > 4, true);
        Check.same("need", forge.count(10) <= 96 && forge.count(11) <= 128, true);
        Check.same("span", forge.row(0, 4) - forge.row(0, 3), forge.row(31, 0) - forge.row(0, 0) - 20);
    }

    private static void wrongInputs() {
        LoopForge forge = Check.of("r0 = r1 + 1 r1 = r0 + 1");
        Check.state("not laid yet", () -> forge.row(-1, 9));
        forge.lay();
        Check.bounds("x", () -> forge.row(-1, 0));
        Check.bounds("x", () -> forge.row(2, 0));
        Check.bounds("x before what", () -> forge.row(2, 9));
        Check.argument("what", () -> forge.row(1, 5));
        Check.argument("what", () -> forge.row(1, -1));
        Check.due("row", () -> forge.row(1, 0), 1);
        Check.due("no loop any more", forge::text, 0);
        Check.state("lay", forge::lay);
        Check.state("row", () -> forge.row(0, 0));
    }
}
