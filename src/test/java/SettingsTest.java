/** Promises 1, 5 and 6: a new object, set and begin. */
public final class SettingsTest {
    private static final int[] FIRST = {1, 3, 4, 1, 2, 1, 1, 4, 16};
    private static final int[] LIMIT = {20, 20, 20, 20, 8, 8, 8, 16, 64};

    public static void main(String[] args) {
        aNewObject();
        setTellsWhatItWas();
        setRefuses();
        beginTellsWhatItGave();
        objectsAreApart();
        Check.ends();
    }

    private static void aNewObject() {
        LoopForge forge = new LoopForge();
        for (int what = 0; what <= 11; what++) {
            int which = what;
            Check.due("count " + what, () -> forge.count(which), 0);
        }
        Check.state("lay", forge::lay);
        Check.state("run", () -> forge.run(false));
        Check.state("run laid", () -> forge.run(true));
        Check.state("row", () -> forge.row(0, 0));
        Check.state("register", () -> forge.register(0));
        Check.state("cell", () -> forge.cell(0, 0));
        Check.bounds("delay", () -> forge.delay(0, 0, 0));
        for (int r = 0; r < 32; r++) {
            int which = r;
            Check.due("begin " + r, () -> forge.begin(which, 0), 0);
        }
        for (int what = 0; what < 9; what++) {
            int which = what;
            Check.due("set " + what, () -> forge.set(which, FIRST[which]), FIRST[what]);
        }
    }

    private static void setTellsWhatItWas() {
        for (int what = 0; what < 9; what++) {
            LoopForge forge = new LoopForge();
            int which = what;
            Check.due("set " + what, () -> forge.set(which, 1), FIRST[what]);
            Check.due("set " + what, () -> forge.set(which, LIMIT[which]), 1);
            Check.due("set " + what, () -> forge.set(which, 2), LIMIT[what]);
            for (int other = 0; other < 9; other++) {
                int also = other;
                Check.due("set " + other, () -> forge.set(also, FIRST[also]), other == what ? 2 : FIRST[other]);
            }
        }
    }

    private static void setRefuses() {
        LoopForge forge = new LoopForge();
        for (int what = 0; what < 9; what++) {
            int which = what;
            Check.argument("set " + what + " to 0", () -> forge.set(which, 0));
            Check.argument("set " + what + " to -1", () -> forge.set(which, -1));
            Check.argument("set " + what + " above", () -> forge.set(which, LIMIT[which] + 1));
            Check.argument("set " + what + " far above", () -> forge.set(which, Integer.MAX_VALUE));
            Check.due("set " + what, () -> forge.set(which, 1), FIRST[what]);
        }
        Check.argument("set -1", () -> forge.set(-1, 1));
        Check.argument("set 9", () -> forge.set(9, 1));
        Check.argument("set far", () -> forge.set(Integer.MIN_VALUE, 1));
    }

    private static void beginTellsWhatItGave() {
        LoopForge forge = new LoopForge();
        Check.due("begin", () -> forge.begin(0, Integer.MIN_VALUE), 0);
        Check.due("begin", () -> forge.begin(31, 5), 0);
        Check.due("begin", () -> forge.begin(0, 1), Integer.MIN_VALUE);
        Check.due("begin", () -> forge.begin(31, -1), 5);
        Check.argument("begin -1", () -> forge.begin(-1, 1));
        Check.argument("begin 32", () -> forge.begin(32, 1));
        Check.due("begin", () -> forge.begin(0, 0), 1);
        // A text leaves what BEGIN gives alone.
        Check.read(forge, "r1 = r31 + r31");
        Check.due("begin", () -> forge.begin(31, 0), -1);
    }

    private static void objectsAreApart() {
        LoopForge one = new LoopForge();
        one.set(0, 9);
        one.begin(3, 9);
        Check.read(one, "r1 = 1 + 2");
        LoopForge two = new LoopForge();
        Check.due("rows", () -> two.count(0), 0);
        Check.due("set", () -> two.set(0, 1), 1);
        Check.due("begin", () -> two.begin(3, 1), 0);
    }
}
