import java.util.Random;

/** Loops made by a seeded source, and texts spoilt: the class and the oracle must tell the same. */
public final class OracleTest {
    private static int laid;
    private static int notLaid;
    private static int takenBack;
    private static int later;
    private static int wider;

    public static void main(String[] args) {
        int loops = args.length > 0 ? Integer.parseInt(args[0]) : 1500;
        int seed = args.length > 1 ? Integer.parseInt(args[1]) : 1;
        for (int k = 0; k < loops; k++) {
            Random random = new Random(seed * 1000003L + k);
            compareLoop(random, k % 8 == 0 ? Texts.chain(random) : Texts.loop(random));
        }
        for (int k = 0; k < 4 * loops; k++) {
            compareSpoilt(new Random(seed * 2000003L + k));
        }
        System.out.println(laid + " laid, " + notLaid + " not laid, " + takenBack + " with cycles taken back, "
                + later + " above the least distance, " + wider + " with a size above the need");
        // Without these the comparison would say little.
        Check.same("enough of each", laid > 0 && notLaid > 0 && takenBack > 0 && later > 0 && wider > 0, true);
        Check.ends();
    }

    private static void compareLoop(Random random, String text) {
        LoopForge forge = new LoopForge();
        Oracle oracle = new Oracle();
        for (int what = 0; what <= 8; what++) {
            if (random.nextInt(3) > 0) {
                int v = 1 + random.nextInt(what < 4 ? 20 : what < 7 ? 4 : what == 7 ? 8 : 64);
                if (what < 4 && random.nextInt(4) > 0) {
                    v = 1 + v % 5;
                }
                Check.same("set", forge.set(what, v), oracle.set(what, v));
            }
        }
        for (int r = 0; r < 32; r++) {
            int v = random.nextInt();
            forge.begin(r, v);
            oracle.begin[r] = v;
        }
        Check.same("text of " + text, Check.read(forge, text), oracle.read(text));
        if (oracle.wrong < 0) {
            compareWaits(forge, oracle, text);
            compareLaying(forge, oracle, text);
            compareRuns(forge, oracle, text);
        }
    }

    private static void compareSpoilt(Random random) {
        LoopForge forge = new LoopForge();
        Oracle oracle = new Oracle();
        String text = Texts.spoilt(random);
        Check.same("text of " + text, Check.read(forge, text), oracle.read(text));
        Check.same("reason of " + text, forge.count(1), oracle.reason);
        Check.same("rows of " + text, forge.count(0), oracle.rows.size());
    }

    private static void compareWaits(LoopForge forge, Oracle oracle, String text) {
        oracle.findWaits();
        Check.same("rows of " + text, forge.count(0), oracle.rows.size());
        Check.same("waits of " + text, forge.count(3), oracle.waits.size());
        Check.same("least by units of " + text, forge.count(4), oracle.leastByUnits());
        Check.same("least by circles of " + text, forge.count(5), oracle.leastByCircles());
        for (int x = 0; x < oracle.rows.size(); x++) {
            for (int y = 0; y < oracle.rows.size(); y++) {
                for (int d = 0; d < 6; d++) {
                    compareDelay(forge, oracle, x, y, d);
                }
            }
        }
        for (Oracle.Wait w : oracle.waits) {
            compareDelay(forge, oracle, w.x(), w.y(), w.d());
        }
    }

    private static void compareDelay(LoopForge forge, Oracle oracle, int x, int y, int d) {
        Integer delay = oracle.delay(x, y, d);
        Check.due("delay", () -> forge.delay(x, y, d), delay == null ? "NoSuchElementException" : delay);
    }

    private static void compareLaying(LoopForge forge, Oracle oracle, String text) {
        Check.same("lay of " + text, forge.lay(), oracle.lay());
        if (oracle.distance == 0) {
            notLaid++;
            for (int what = 6; what <= 11; what++) {
                Check.same("count " + what + " of " + text, forge.count(what), 0);
            }
            Check.state("row of " + text, () -> forge.row(0, 0));
            Check.state("run of " + text, () -> forge.run(true));
            return;
        }
        laid++;
        takenBack += oracle.tries > oracle.rows.size() ? 1 : 0;
        later += oracle.distance > Math.max(forge.count(4), forge.count(5)) ? 1 : 0;
        wider += oracle.size > Math.max(1, oracle.need) ? 1 : 0;
        int[] due = {oracle.distance, oracle.greatest() / oracle.distance + 1, oracle.tries, oracle.greatest(),
            oracle.need, oracle.size};
        for (int what = 6; what <= 11; what++) {
            Check.same("count " + what + " of " + text, forge.count(what), due[what - 6]);
        }
        for (int x = 0; x < oracle.rows.size(); x++) {
            int[] row = {oracle.cycle[x], oracle.height[x], oracle.offset[x], oracle.from[x], oracle.to[x]};
            for (int what = 0; what < 5; what++) {
                Check.same("row " + x + " " + what + " of " + text, forge.row(x, what), row[what]);
            }
        }
    }

    private static void compareRuns(LoopForge forge, Oracle oracle, String text) {
        Check.same("steps of " + text, forge.run(false), oracle.runWritten());
        compareLast(forge, oracle, text);
        if (oracle.distance > 0) {
            forge.begin(0, forge.begin(0, 0));
            Check.same("cycles of " + text, forge.run(true), oracle.cycles());
            compareLast(forge, oracle, text);
        }
    }

    private static void compareLast(LoopForge forge, Oracle oracle, String text) {
        for (int r = 0; r < 32; r++) {
            Check.same("register " + r + " of " + text, forge.register(r), oracle.registers[r]);
        }
        for (int a = 0; a < 4; a++) {
            for (int j = 0; j < 1024; j++) {
                Check.same("cell of " + text, forge.cell(a, j), oracle.cells[a][j]);
            }
        }
    }
}
