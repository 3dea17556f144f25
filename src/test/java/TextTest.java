/** Promise 4: text, and where a text is WRONG. */
public final class TextTest {
    public static void main(String[] args) {
        rightTexts();
        wrongSigns();
        wrongRows();
        wrongPlaces();
        tooManyRows();
        setTwice();
        aTextTakesThePlaceOfTheOneBefore();
        Check.ends();
    }

    private static void reads(String text, int place, int reason, int rows) {
        LoopForge forge = new LoopForge();
        Check.same("text of " + text, Check.read(forge, text), place);
        Check.same("reason of " + text, forge.count(1), reason);
        Check.same("rows of " + text, forge.count(0), rows);
        Check.same("bytes behind " + text, forge.count(2), 0);
    }

    private static void right(String text, int rows) {
        reads(text, -1, 0, rows);
    }

    private static void wrong(String text, int place) {
        reads(text, place, 1, 0);
    }

    private static void rightTexts() {
        right("r0=i+i", 1);
        right("r00=i+i r1=i+i r02=i+i", 3);
        right("r31 = r31 << r0 r30 = r1 >> r2 r29 = 1 < 2", 3);
        right("r1=1+1r2=1-1r3=1*1r4=1&1r5=1|1r6=1^1", 6);
        right("r1=r1--1000 r2=-1000--1", 2);
        right("r1=min(r1 r2)r2=max(i -5)r3=min(-1-2)", 3);
        right("r1 = min(1 2) a[0] = r1", 2);
        right("a[0]=r1b[250]=i c[4*i]=1d[-4*i+250]=-1000", 4);
        right("r1=a[0*i-250]r2=b[-0*i]r3=c[3 * i - 0]r4=d[ 1 ]", 4);
        right("r1=a[0004 * i + 0250] r2 = i + 0001000", 2);
        right(" \t\r\n; r = ? a remark\n r1 = ; 5\n i + ; and\n 1;the end", 1);
        right("r1=i+1;", 1);
        right("r12=1+2", 1);
        right("r1=r2<<r3", 1);
        right("r1=2*i a[2*i]=i", 2);
    }

    private static void wrongSigns() {
        wrong("", 0);
        wrong("   ", 3);
        wrong("; only a remark", 15);
        wrong("; a remark\n?", 11);
        wrong("?", 0);
        wrong("r0 = i + \u0000", 9);
        wrong("r0 = i + \u00ff", 9);
        wrong("r = 1 + 2", 0);
        wrong("r", 0);
        wrong("r32 = 1 + 2", 0);
        wrong("r99 = 1 + 2", 0);
        wrong("r1 = r32 + 2", 5);
        wrong("r1 = r310 + 2", 8);
        wrong("r123 = 1 + 2", 3);
        wrong("r 1 = 1 + 2", 0);
        wrong("r1 = 1001 + 2", 5);
        wrong("r1 = 1 + 1001", 9);
        wrong("r1 = 1 + 99999999999999999999", 9);
        wrong("r1 = 1 + 4294967297", 9);
        wrong("r1 = 1 > 2", 7);
        wrong("r1 = 1 > > 2", 7);
        wrong("r1 = 1 < < 2", 9);
        wrong("r1 = 1 <<< 2", 9);
        wrong("r1 = m (1 2)", 5);
        wrong("r1 = mi (1 2)", 5);
        wrong("r1 = mix (1 2)", 5);
        wrong("r1 = ma", 5);
        wrong("r1 = MIN(1 2)", 5);
        wrong("e[1] = 1", 0);
        wrong("r1 = 1 / 2", 7);
    }

    private static void wrongRows() {
        wrong("r1", 2);
        wrong("r1 ", 3);
        wrong("r1 =", 4);
        wrong("r1 = ;x", 7);
        wrong("r1 = r2", 7);
        wrong("r1 = r2 +", 9);
        wrong("r1 = r2 r3", 8);
        wrong("r1 = r2 r3 = 1 + 1", 8);
        wrong("r1 == 1 + 1", 4);
        wrong("r1 = = 1", 5);
        wrong("r1 = + 1", 5);
        wrong("r1 = - r2 + 1", 7);
        wrong("r1 = - i + 1", 7);
        wrong("r1 = - - 1 + 1", 7);
        wrong("r1 = 1 + - r2", 11);
        wrong("r1 = 1 + a[1]", 9);
        wrong("r1 = a[1] + 1", 10);
        wrong("r1 = min(1, 2)", 10);
        wrong("r1 = min 1 2", 9);
        wrong("r1 = min(1 2", 12);
        wrong("r1 = min(1)", 10);
        wrong("r1 = max(1 2 3)", 13);
        wrong("r1 = max(a[1] 2)", 9);
        wrong("i = 1 + 1", 0);
        wrong("5 = 1 + 1", 0);
        wrong("= 1", 0);
        wrong("a = 1", 2);
        wrong("a[1] 1", 5);
        wrong("a[1] = ", 7);
        wrong("a[1] = r1 + 1", 10);
        wrong("a[1] = b[1]", 7);
        wrong("a[1] = min(1 2)", 7);
        wrong("r1 = 1 + 2 3", 11);
        wrong("r1 = 1 + 2 )", 11);
        // REASON 1 goes before REASON 2, wherever it is.
        wrong("r1 = 1 + 2 r1 = 1 + 2 ?", 22);
    }

    private static void wrongPlaces() {
        wrong("r1 = a[i]", 7);
        wrong("r1 = a[", 7);
        wrong("r1 = a[]", 7);
        wrong("r1 = a[1", 8);
        wrong("r1 = a[r1]", 7);
        wrong("r1 = a[251]", 7);
        wrong("r1 = a[1000]", 7);
        wrong("r1 = a[1001]", 7);
        wrong("r1 = a[5 * i]", 7);
        wrong("r1 = a[5 * r1]", 7);
        wrong("r1 = a[250*", 7);
        wrong("r1 = a[5 i]", 9);
        wrong("r1 = a[5 ?", 9);
        wrong("r1 = a[-5 * i]", 8);
        wrong("r1 = a[-5]", 8);
        wrong("r1 = a[-4]", 9);
        wrong("r1 = a[--4 * i]", 8);
        wrong("r1 = a[+4 * i]", 7);
        wrong("r1 = a[4 * r1]", 11);
        wrong("r1 = a[4 * 4]", 11);
        wrong("r1 = a[4 * i 4]", 13);
        wrong("r1 = a[4 * i + 251]", 15);
        wrong("r1 = a[4 * i - 1001]", 15);
        wrong("r1 = a[4 * i + -1]", 15);
        wrong("r1 = a[4 * i + i]", 15);
        wrong("r1 = a[4 * i + ]", 15);
        wrong("r1 = a[4 * i + 1 + 1]", 17);
        wrong("r1 = a[4 + 1]", 9);
        wrong("r1 = a[i * 4]", 7);
        wrong("a[251] = 1", 2);
        wrong("a[5*i] = 1", 2);
        wrong("a[4*i+251] = 1", 6);
    }

    private static void tooManyRows() {
        StringBuilder text = new StringBuilder();
        for (int x = 0; x < 48; x++) {
            text.append("a[-4 * i + 250] = -1000 ; the longest row\n");
        }
        int length = text.length();
        right(text.toString(), 48);
        right(text + "  ", 48);
        wrong(text + "a[1] = 1", length);
        wrong(text + "  r1", length + 2);
        wrong(text + " 1", length + 1);
        wrong(text + "?", length);
        wrong(text + "r32", length);
        StringBuilder signs = new StringBuilder();
        for (int k = 0; k < 4000; k++) {
            signs.append('=');
        }
        wrong(text.substring(0, text.indexOf("\n") + 1) + signs, text.indexOf("\n") + 1);
    }

    private static void setTwice() {
        reads("r1 = 1 + 2 r1 = 1 + 2", 11, 2, 0);
        reads("r1 = 1 + 2 r01 = 1 + 2", 11, 2, 0);
        reads("r1 = 1 + 2 r2 = r1 + r1 r3 = a[1] r2 = a[1] r1 = 1 + 1", 34, 2, 0);
        reads("r1 = 1 + 2 ; once\n\tr1 = a[1]", 19, 2, 0);
    }

    private static void aTextTakesThePlaceOfTheOneBefore() {
        LoopForge forge = new LoopForge();
        Check.due("no text", () -> forge.count(1), 0);
        Check.due("text", () -> Check.read(forge, "r1 = 1 + 2"), -1);
        Check.due("text", () -> Check.read(forge, "r1 = 1 + 2 r1 = 1 + 2"), 11);
        Check.due("reason", () -> forge.count(1), 2);
        Check.state("lay without a loop", forge::lay);
        Check.due("text", () -> Check.read(forge, "r1 = r1 + 2 r2 = r1 + r1"), -1);
        Check.due("reason", () -> forge.count(1), 0);
        Check.due("rows", () -> forge.count(0), 2);
        Check.due("text of nothing", forge::text, 0);
        Check.due("reason", () -> forge.count(1), 1);
        Check.due("rows", () -> forge.count(0), 0);
        // A register that only a text before has set is set by none.
        Check.due("text", () -> Check.read(forge, "r1 = 1 + 2 r3 = r2 + 5"), -1);
        forge.begin(2, 7);
        forge.run(false);
        Check.due("register", () -> forge.register(3), 12);
        Check.due("waits", () -> forge.count(3), 0);
    }
}
