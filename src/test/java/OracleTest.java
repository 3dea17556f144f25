import java.util.ArrayList;
import java.util.Collections;
import java.util.List;
import java.util.Random;

/** Loops made by a seeded source, and texts spoilt: the class and the oracle must tell the same. */
public final class OracleTest {
    private static int laid;
    private static int notLaid;
    private static int takenBack;
    private static int later;
    private static int wider;

    public static void main(String[] args) {
        int loops = args.length > 0 ? Integer.parseInt(args[0]) : 2500;
        int seed = args.length > 1 ? Integer.parseInt(args[1]) : 1;
        for (int k = 0; k < loops; k++) {
            Random random = new Random(seed * 1000003L + k);
            compareLoop(random, k % 8 == 0 ? Texts.chain(random) : Texts.loop(random));
        }
        for (int k = 0; k < 4 * loops; k++) {
            compareSpoilt(new Random(seed * 2000003L + k));
        }
        eachSignInEachPlace();
        System.out.println(laid + " laid, " + notLaid + " not laid, " + takenBack + " with cycles taken back, "
                + later + " above the least distance, " + wider + " with a size above the need");
        // Without these the comparison would say little.
        Check.same("enough of each", laid > 0 && notLaid > 0 && takenBack > 0 && later > 0 && wider > 0, true);
        Check.ends();
    }

    /** What is done to an object before it is asked: no object is asked so much that it has more than 512 calls. */
    private record Recipe(int[][] sets, int[] begins, String text) {
        static Recipe of(Random random, String text) {
            List<int[]> sets = new ArrayList<>();
            for (int what = 0; what <= 8; what++) {
                if (random.nextInt(3) > 0) {
                    int v = 1 + random.nextInt(what < 4 ? 20 : what < 7 ? 4 : what == 7 ? 8 : 64);
                    sets.add(new int[] {what, what < 4 && random.nextInt(4) > 0 ? 1 + v % 5 : v});
                }
            }
            return new Recipe(sets.toArray(new int[0][]), random.ints(32).toArray(), text);
        }

        LoopForge forge() {
            LoopForge forge = new LoopForge();
            for (int[] one : sets) {
                forge.set(one[0], one[1]);
            }
            for (int r = 0; r < 32; r++) {
                forge.begin(r, begins[r]);
            }
            Check.read(forge, text);
            return forge;
        }

        Oracle oracle() {
            Oracle oracle = new Oracle();
            for (int[] one : sets) {
                oracle.set(one[0], one[1]);
            }
            System.arraycopy(begins, 0, oracle.begin, 0, 32);
            oracle.read(text);
            return oracle;
        }
    }

    private static void compareLoop(Random random, String text) {
        Recipe recipe = Recipe.of(random, text);
        Oracle oracle = recipe.oracle();
        LoopForge forge = recipe.forge();
        Check.same("reason of " + text, forge.count(1), oracle.reason);
        Check.same("rows of " + text, forge.count(0), oracle.rows.size());
        if (oracle.wrong < 0) {
            compareWaits(forge, oracle, random, text);
            compareLaying(recipe.forge(), oracle, text);
            compareRuns(recipe, oracle, random);
        }
    }

    private static void compareSpoilt(Random random) {
        compareText(Texts.spoilt(random));
    }

    /** Before each sign of each form, and in its place. */
    private static void eachSignInEachPlace() {
        String[] rows = {"r1 = r2 << - 7", "r1 = min ( i - 3 )", "r1 = - 4 - 7", "r3 = b [ - 4 * i + 250 ]",
            "a [ 3 * i - 1 ] = r9", "c [ 2 * i ] = - 9", "d [ 4 ] = i"};
        String[] all = "r1 r31 a d i 0 4 5 250 251 1000 + - * & | ^ << >> < = [ ] ( ) min max".split(" ");
        for (String row : rows) {
            String[] signs = row.split(" ");
            for (int k = 0; k <= signs.length; k++) {
                List<String> before = List.of(signs).subList(0, k);
                List<String> behind = List.of(signs).subList(k, signs.length);
                List<String> next = behind.subList(Math.min(1, behind.size()), behind.size());
                for (String sign : all) {
                    String begin = String.join(" ", before) + " " + sign + " ";
                    compareText(begin + String.join(" ", behind));
                    compareText(begin + String.join(" ", next));
                    compareText("r0 = 1 + 2 " + begin + String.join(" ", next) + " r5 = 6 * 7");
                }
            }
        }
    }

    private static void compareText(String text) {
        LoopForge forge = new LoopForge();
        Oracle oracle = new Oracle();
        Check.same("text of " + text, Check.read(forge, text), oracle.read(text));
        Check.same("reason of " + text, forge.count(1), oracle.reason);
        Check.same("rows of " + text, forge.count(0), oracle.rows.size());
    }

    private static void compareWaits(LoopForge forge, Oracle oracle, Random random, String text) {
        oracle.findWaits();
        Check.same("waits of " + text, forge.count(3), oracle.waits.size());
        Check.same("least by units of " + text, forge.count(4), oracle.leastByUnits());
        Check.same("least by circles of " + text, forge.count(5), oracle.leastByCircles());
        int rows = oracle.rows.size();
        for (int k = 0; k < 100; k++) {
            compareDelay(forge, oracle, random.nextInt(rows), random.nextInt(rows), random.nextInt(4));
            if (!oracle.waits.isEmpty()) {
                Oracle.Wait w = oracle.waits.get(random.nextInt(oracle.waits.size()));
                compareDelay(forge, oracle, w.x(), w.y(), w.d());
            }
        }
    }

    private static void compareDelay(LoopForge forge, Oracle oracle, int x, int y, int d) {
        Integer delay = oracle.delay(x, y, d);
        Check.due("delay", () -> forge.delay(x, y, d), delay == null ? "NoSuchElementException" : delay);
    }

    private static void compareLaying(LoopForge forge, Oracle oracle, String text) {
        Check.same("lay of " + text, forge.lay(), oracle.lay());
        if (oracle.distance == 0) {
            notLaid++;
            for (int what = 6; what <= 11; what++) {
                Check.same("count " + what + " of " + text, forge.count(what), 0);
            }
            Check.state("row of " + text, () -> forge.row(0, 0));
            Check.state("run of " + text, () -> forge.run(true));
            return;
        }
        laid++;
        takenBack += oracle.tries > oracle.rows.size() ? 1 : 0;
        later += oracle.distance > Math.max(forge.count(4), forge.count(5)) ? 1 : 0;
        wider += oracle.size > Math.max(1, oracle.need) ? 1 : 0;
        int[] due = {oracle.distance, oracle.greatest() / oracle.distance + 1, oracle.tries, oracle.greatest(),
            oracle.need, oracle.size};
        for (int what = 6; what <= 11; what++) {
            Check.same("count " + what + " of " + text, forge.count(what), due[what - 6]);
        }
        for (int x = 0; x < oracle.rows.size(); x++) {
            int[] row = {oracle.cycle[x], oracle.height[x], oracle.offset[x], oracle.from[x], oracle.to[x]};
            for (int what = 0; what < 5; what++) {
                Check.same("row " + x + " " + what + " of " + text, forge.row(x, what), row[what]);
            }
        }
    }

    private static void compareRuns(Recipe recipe, Oracle oracle, Random random) {
        LoopForge written = recipe.forge();
        Check.same("steps of " + recipe.text(), written.run(false), oracle.runWritten());
        compareLast(written, oracle, random, recipe.text());
        if (oracle.distance > 0) {
            LoopForge laid = recipe.forge();
            laid.lay();
            Check.same("cycles of " + recipe.text(), laid.run(true), oracle.cycles());
            compareLast(laid, oracle, random, recipe.text());
        }
    }

    /** All registers; of the ints those that have been set, as many as there are calls for, and some others. */
    private static void compareLast(LoopForge forge, Oracle oracle, Random random, String text) {
        for (int r = 0; r < 32; r++) {
            Check.same("register " + r + " of " + text, forge.register(r), oracle.registers[r]);
        }
        List<Integer> set = new ArrayList<>();
        for (int k = 0; k < 4096; k++) {
            if (oracle.cells[k / 1024][k % 1024] != Oracle.first(k / 1024, k % 1024)) {
                set.add(k);
            }
        }
        Collections.shuffle(set, random);
        for (int k = 0; k < 200; k++) {
            compareCell(forge, oracle, k < set.size() ? set.get(k) : random.nextInt(4096), text);
        }
    }

    private static void compareCell(LoopForge forge, Oracle oracle, int which, String text) {
        int a = which / 1024;
        int j = which % 1024;
        Check.same("cell " + a + " " + j + " of " + text, forge.cell(a, j), oracle.cells[a][j]);
    }
}
