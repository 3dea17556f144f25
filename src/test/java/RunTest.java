import java.util.Arrays;

/** Promises 11, 12 and 13: run, register and cell. */
public final class RunTest {
    public static void main(String[] args) {
        operators();
        roundsAndBegins();
        arrays();
        laidTellsTheSame();
        cycles();
        wrongInputs();
        Check.ends();
    }

    private static void operators() {
        gives("r1 + r2", Integer.MAX_VALUE, 1, Integer.MIN_VALUE);
        gives("r1 - r2", Integer.MIN_VALUE, 1, Integer.MAX_VALUE);
        gives("r1 * r2", 65537, 65537, 131073);
        gives("r1 & r2", 12, 10, 8);
        gives("r1 | r2", 12, 10, 14);
        gives("r1 ^ r2", 12, 10, 6);
        gives("r1 << r2", 1, 33, 2);
        gives("r1 << r2", 1, -1, Integer.MIN_VALUE);
        gives("r1 >> r2", -7, 1, -4);
        gives("r1 >> r2", -7, 63, -1);
        gives("r1 < r2", -1, 0, 1);
        gives("r1 < r2", 0, 0, 0);
        gives("r1 < r2", Integer.MIN_VALUE, Integer.MAX_VALUE, 1);
        gives("min(r1 r2)", Integer.MIN_VALUE, 1, Integer.MIN_VALUE);
        gives("max(r1 r2)", Integer.MIN_VALUE, 1, 1);
        gives("max(r1 -1000)", -2000, 0, -1000);
        gives("i - 1000", 0, 0, -985);
        gives("i + r2", 0, 7, 22);
    }

    private static void gives(String what, int first, int second, int due) {
        LoopForge forge = Check.of("r0 = " + what);
        forge.begin(0, 99);
        forge.begin(1, first);
        forge.begin(2, second);
        forge.lay();
        for (int laid = 0; laid < 2; laid++) {
            forge.run(laid == 1);
            Check.due(what, () -> forge.register(0), due);
            Check.due("first of " + what, () -> forge.register(1), first);
            Check.due("second of " + what, () -> forge.register(2), second);
        }
    }

    private static void roundsAndBegins() {
        LoopForge forge = Check.of("r0 = r1 + 1 r1 = r0 * 2 r2 = r2 + r0");
        forge.begin(1, 10);
        forge.begin(2, 100);
        forge.set(8, 1);
        Check.due("steps", () -> forge.run(false), 3);
        Check.due("r0", () -> forge.register(0), 11);
        Check.due("r1", () -> forge.register(1), 22);
        Check.due("r2", () -> forge.register(2), 111);
        forge.set(8, 3);
        forge.lay();
        for (int laid = 0; laid < 2; laid++) {
            forge.run(laid == 1);
            // 11 22, 23 46, 47 94
            Check.due("r0", () -> forge.register(0), 47);
            Check.due("r1", () -> forge.register(1), 94);
            Check.due("r2", () -> forge.register(2), 181);
            Check.due("r31", () -> forge.register(31), 0);
        }
    }

    private static void arrays() {
        LoopForge forge = Check.of("r0 = a[2*i+1] r1 = b[-4*i-250] r2 = c[4*i+250] d[3*i] = r0 b[7] = i a[-4*i-250] = -7");
        forge.set(8, 64);
        Check.due("steps", () -> forge.run(false), 384);
        Check.due("r0", () -> forge.register(0), 639 * 7 ^ 21);
        Check.due("r1", () -> forge.register(1), 10 * 10 + 3);
        Check.due("r2", () -> forge.register(2), 5 - 1014);
        Check.due("d", () -> forge.cell(3, 512), 513 * 7 ^ 21);
        Check.due("d", () -> forge.cell(3, 512 + 189), 639 * 7 ^ 21);
        Check.due("d between", () -> forge.cell(3, 513), 0);
        Check.due("b", () -> forge.cell(1, 519), 63);
        Check.due("b", () -> forge.cell(1, 520), 520 * 520 + 3);
        Check.due("a", () -> forge.cell(0, 10), -7);
        Check.due("a", () -> forge.cell(0, 11), 11 * 7 ^ 21);
        Check.due("a", () -> forge.cell(0, 0), 21);
        Check.due("c", () -> forge.cell(2, 1023), -1018);
        forge.run(false);
        Check.due("arrays are new in each run", () -> forge.cell(0, 10), -7);
        Check.read(forge, "r0 = d[3*i]");
        forge.run(false);
        Check.due("d", () -> forge.cell(3, 512), 0);
        Check.due("a", () -> forge.cell(0, 10), 10 * 7 ^ 21);
    }

    private static void laidTellsTheSame() {
        // What a ROUND sets a later one takes; the sum goes through the registers that rotate.
        LoopForge forge = Check.of("r0 = a[1*i] r1 = a[1*i-2] r2 = r0 * r1 r3 = r3 + r2 a[1*i+1] = r3 b[1*i] = r2 b[1*i-3] = i");
        forge.set(3, 4);
        forge.set(8, 40);
        forge.begin(3, 1234567);
        forge.lay();
        forge.run(false);
        int[] registers = registers(forge);
        int[] cells = cells(forge);
        // Another run between, so that nothing of the first one is left.
        forge.begin(3, 5);
        forge.run(true);
        Check.same("other begins", forge.register(3) != registers[3], true);
        forge.begin(3, 1234567);
        forge.run(true);
        Check.same("registers", Arrays.toString(registers(forge)), Arrays.toString(registers));
        Check.same("cells", Arrays.toString(cells(forge)), Arrays.toString(cells));
    }

    private static int[] registers(LoopForge forge) {
        int[] all = new int[32];
        for (int r = 0; r < 32; r++) {
            all[r] = forge.register(r);
        }
        return all;
    }

    /** Those that the ROWS set, and some around them. */
    private static int[] cells(LoopForge forge) {
        int[] all = new int[200];
        for (int k = 0; k < all.length; k++) {
            all[k] = forge.cell(k % 4, 507 + k / 4);
        }
        return all;
    }

    private static void cycles() {
        LoopForge forge = Check.of("r0 = a[1 * i] r1 = r0 * 3 r2 = r1 + r9 d[1 * i] = r2");
        forge.lay();
        // Cycles 0 4 7 9, the last with TIME 1; 15 times 2
        Check.due("cycles", () -> forge.run(true), 40);
        Check.due("steps", () -> forge.run(false), 64);
        forge.set(8, 1);
        forge.lay();
        Check.due("cycles of one round", () -> forge.run(true), 10);
        LoopForge early = Check.of("r0 = i * 3 r1 = r2 + 1");
        early.set(1, 20);
        early.lay();
        Check.due("an early row may end last", () -> early.run(true), 35);
    }

    private static void wrongInputs() {
        LoopForge forge = new LoopForge();
        Check.state("no loop", () -> forge.run(false));
        Check.state("no run before the register", () -> forge.register(-1));
        Check.state("no run before the array", () -> forge.cell(-1, -1));
        Check.read(forge, "r0 = 1 + 1");
        Check.state("not laid", () -> forge.run(true));
        Check.state("no run", () -> forge.register(0));
        forge.run(false);
        Check.argument("register", () -> forge.register(-1));
        Check.argument("register", () -> forge.register(32));
        Check.bounds("array", () -> forge.cell(-1, 0));
        Check.bounds("array", () -> forge.cell(4, 0));
        Check.bounds("int", () -> forge.cell(0, -1));
        Check.bounds("int", () -> forge.cell(3, 1024));
        Check.due("register", () -> forge.register(0), 2);
    }
}
