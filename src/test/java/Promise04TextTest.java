/** Promise 4: text, with what TEXTS says of signs, of ROWS, and of where a text is WRONG. */
public final class Promise04TextTest {
    public static void main(String[] args) {
        fourBytesAreBlanks();
        onlyByte10EndsARemark();
        remarksUpToTheEnd();
        eachByteAtTheBeginning();
        eachByteBehindARow();
        signsAreAsLongAsCanBe();
        registers0To31();
        numbersUpTo1000();
        arraysAToD();
        operands();
        operators();
        eachRowHasItsMark();
        firstNumbersOfPlaces();
        otherNumbersOfPlaces();
        formsOfPlaces();
        eachEarlyEnd();
        rows1To48();
        rowsAreFullAt4096Bytes();
        setTwice();
        theFirstWrongSignIsTold();
        whatIsNoSignStandsNowhere();
        reason1GoesBeforeReason2();
        theTapeIsEmptyThen();
        aWrongTextLeavesNoLoop();
        aRightTextReplacesTheLoop();
        nothingOfTheTextBeforeIsLeft();
        takesLayingAndRunAway();
        leavesSettingsAndBegins();
        Check.ends();
    }

    private static void reads(String text, int place, int reason, int rows) {
        LoopForge forge = new LoopForge();
        String shown = text.length() > 60 ? text.substring(0, 60) + ".." : text;
        Check.same("text of " + shown, Check.read(forge, text), place);
        Check.same("reason of " + shown, forge.count(1), reason);
        Check.same("rows of " + shown, forge.count(0), rows);
    }

    private static void right(String text, int rows) {
        reads(text, -1, 0, rows);
    }

    private static void wrong(String text, int place) {
        reads(text, place, 1, 0);
    }

    /** What register r0 is at last, if BEGIN gives 5 for r1 and 9 for r12. */
    private static void gives(String text, int due) {
        LoopForge forge = Check.of(text);
        forge.begin(1, 5);
        forge.begin(12, 9);
        forge.run(false);
        Check.due("r0 of " + text, () -> forge.register(0), due);
    }

    private static boolean isOneOf(int b, String bytes) {
        return bytes.indexOf(b) >= 0;
    }

    private static void fourBytesAreBlanks() {
        for (int b = 0; b < 256; b++) {
            String text = "r0 =" + (char) b + "i + 1";
            if (b == 9 || b == 10 || b == 13 || b == 32) {
                right(text, 1);
                right((char) b + "r0=i+1" + (char) b, 1);
                wrong("r0" + (char) b, 3);
                wrong("r" + (char) b + "0=i+1", 0);
                wrong("r0=i<" + (char) b + "<1", 6);
                wrong("r0=i>" + (char) b + ">1", 4);
                wrong("r0=m" + (char) b + "in(1 2)", 3);
                wrong("r0=i+1" + (char) b + "0", 7);
            } else if (b == ';') {
                wrong(text, 10);
            } else {
                // An array, a number, i or - can stand there, but i can't stand behind it.
                wrong(text, isOneOf(b, "abcdi-0123456789") ? 5 : 4);
            }
        }
    }

    private static void onlyByte10EndsARemark() {
        for (int b = 0; b < 256; b++) {
            String text = "r0 = i + ; ?" + (char) b + "1";
            if (b == 10) {
                right(text, 1);
            } else {
                wrong(text, text.length());
            }
        }
    }

    private static void remarksUpToTheEnd() {
        right("r0=i+1;", 1);
        right("r0=i+1;\n", 1);
        right("r0=i+1;;;r1=;", 1);
        right(";\n;\n r0=i+1", 1);
        right("r0;\n=;\ni;\n+;\n1;\n", 1);
        wrong("r0=i+;", 6);
        wrong("r0=i+;1", 7);
        wrong(";", 1);
        wrong(";\n", 2);
        wrong("r0=i+1;\n?", 8);
        wrong("r;\n0=i+1", 0);
        wrong("r0=1;\n0+1", 6);
    }

    private static void eachByteAtTheBeginning() {
        for (int b = 0; b < 256; b++) {
            String rest = "[1]=2";
            if (isOneOf(b, "abcd\t\n\r ")) {
                reads((char) b + rest, b > 32 ? -1 : 1, b > 32 ? 0 : 1, b > 32 ? 1 : 0);
            } else {
                wrong((char) b + rest, b == ';' ? 6 : 0);
            }
        }
    }

    private static void eachByteBehindARow() {
        for (int b = 0; b < 256; b++) {
            String text = "d[1] = i" + (char) b;
            if (isOneOf(b, ";\t\n\r ")) {
                right(text, 1);
            } else {
                // An array begins the next ROW, which ends too early; an r alone is no sign.
                wrong(text, isOneOf(b, "abcd") ? 9 : 8);
            }
        }
    }

    private static void signsAreAsLongAsCanBe() {
        gives("r0=i+r12", 24);
        wrong("r0=i+r1 2", 8);
        wrong("r0=i+r121", 8);
        wrong("r0=i+r012", 8);
        gives("r0=r12<<1", 18);
        wrong("r0=i<<<1", 6);
        wrong("r0=i<<<<1", 6);
        wrong("r0=i>>>1", 6);
        wrong("r0=i>1", 4);
        wrong("r0=i>=1", 4);
        wrong("r0=i<=1", 5);
        wrong("r0==i+1", 3);
        gives("r0=i<12", 0);
        gives("r0=i<-1", 0);
        gives("r0=i<<-31", 30);
        gives("r0=i--12", 27);
        right("r0=i+ir1=i+i", 2);
        right("r0=min(i i)r1=max(ii)", 2);
        wrong("r0=mini i)", 6);
        wrong("r0=mi", 3);
        wrong("r0=mim(i i)", 3);
        wrong("r0=mix(i i)", 3);
        wrong("r0=man(i i)", 3);
        wrong("r0=m", 3);
        wrong("r0=ma", 3);
        wrong("r0=Min(i i)", 3);
    }

    private static void registers0To31() {
        for (int r = 0; r < 100; r++) {
            String two = "r" + r / 10 + r % 10;
            if (r < 32) {
                right(two + " = i + 1", 1);
                right("r0 = " + two + " + 1", 1);
                right("r0 = 1 + " + two, 1);
                right("a[0] = " + two, 1);
            } else {
                wrong(two + " = i + 1", 0);
                wrong("r0 = " + two + " + 1", 5);
                wrong("r0 = 1 + " + two, 9);
                wrong("a[0] = " + two, 7);
                wrong("r0 = min(1 " + two + ")", 11);
            }
        }
        for (int r = 0; r < 10; r++) {
            int one = r;
            LoopForge forge = Check.of("r" + r + "=i+1 r31=r0" + r + "+0");
            forge.run(false);
            Check.due("r" + r + " is r0" + r, () -> forge.register(one), 16);
            Check.due("r0" + r + " is r" + r, () -> forge.register(31), 16);
        }
        wrong("r = i + 1", 0);
        wrong("rr0 = i + 1", 0);
        wrong("r-1 = i + 1", 0);
        wrong("R0 = i + 1", 0);
        wrong("r0 = r", 5);
        wrong("r0 = i + r", 9);
        wrong("r320 = i + 1", 0);
    }

    private static void numbersUpTo1000() {
        for (int n = 0; n <= 1000; n += n < 20 || n >= 980 ? 1 : 60) {
            gives("r0 = min(" + n + " " + n + ")", n);
            gives("r0 = -" + n + " + 0", -n);
        }
        gives("r0 = 0000001000 + 000", 1000);
        gives("r0 = 0 - 00", 0);
        for (String great : new String[] {"1001", "1002", "1010", "1100", "2000", "9999", "10000", "0001001", "65536",
            "65537", "2147483647", "2147483648", "4294967295", "4294967296", "4294967297", "4294968296",
            "18446744073709551616", "18446744073709551617", "1000000000000000000000000000000000000000000"}) {
            wrong("r0 = " + great + " + 1", 5);
            wrong("r0 = 1 + " + great, 9);
            wrong("r0 = -" + great + " + 1", 6);
            wrong("r0 = - " + great + " + 1", 7);
            wrong("r0 = max(" + great + " 1)", 9);
            wrong("a[" + great + "] = 1", 2);
            wrong("a[0] = " + great, 7);
            wrong("a[0] = -" + great, 8);
        }
    }

    private static void arraysAToD() {
        for (char array = 'a'; array <= 'd'; array++) {
            right("r0 = " + array + "[0]", 1);
            int number = array - 'a';
            LoopForge forge = Check.of(array + "[0] = 77");
            forge.run(false);
            for (int k = 0; k < 4; k++) {
                int other = k;
                Check.same(array + " is " + number, forge.cell(other, 512) == 77, other == number);
            }
        }
        wrong("e[0] = 1", 0);
        wrong("r0 = e[0]", 5);
        wrong("A[0] = 1", 0);
        wrong("D[0] = 1", 0);
        wrong("` [0] = 1", 0);
        wrong("ab[0] = 1", 1);
    }

    private static void operands() {
        gives("r0 = r1 + r12", 14);
        gives("r0 = i + i", 30);
        gives("r0 = - 3 + - 4", -7);
        gives("r0 = -3--4", 1);
        gives("r0 = -0 + -0", 0);
        gives("r0 = min(-3-4)", -4);
        gives("r0 = max(-3 -4)", -3);
        wrong("r0 = --3 + 1", 6);
        wrong("r0 = +3 + 1", 5);
        wrong("r0 = -r1 + 1", 6);
        wrong("r0 = -i + 1", 6);
        wrong("r0 = -a[0]", 6);
        wrong("r0 = 1 + --1", 10);
        wrong("r0 = 1 + -r1", 10);
        wrong("r0 = 1 + +1", 9);
        wrong("r0 = 1 + a[0]", 9);
        wrong("r0 = 1 + min(1 2)", 9);
        wrong("r0 = min(a[0] 1)", 9);
        wrong("r0 = min(1 a[0])", 11);
        wrong("r0 = min(1 + 2)", 11);
        wrong("r0 = min(-r1 2)", 10);
        wrong("a[0] = -i", 8);
        wrong("a[0] = a[1]", 7);
        wrong("a[0] = min(1 2)", 7);
        wrong("a[0] = (1)", 7);
    }

    private static void operators() {
        String[] all = {"+", "-", "*", "&", "|", "^", "<<", ">>", "<"};
        int[] due = {14, 4, 45, 1, 13, 12, 9 << 5, 0, 0};
        for (int k = 0; k < all.length; k++) {
            gives("r0 = r12 " + all[k] + " r1", due[k]);
        }
        gives("r0 = min(r12 r1)", 5);
        gives("r0 = max(r12 r1)", 9);
        for (String other : new String[] {"=", "[", "]", "(", ")", ">", "/", "%", "~", "!", ",", ".", ":", "min"}) {
            wrong("r0 = 1 " + other + " 2", 7);
        }
        wrong("r0 = 1", 6);
        wrong("r0 = 1 2", 7);
        wrong("r0 = i r1 = 1 + 1", 7);
        wrong("r0 = 1 + 2 + 3", 11);
        wrong("r0 = min 1 2)", 9);
        wrong("r0 = min(1, 2)", 10);
        wrong("r0 = min()", 9);
        wrong("r0 = min(1)", 10);
        wrong("r0 = min(1 2", 12);
        wrong("r0 = min(1 2 3)", 13);
        wrong("r0 = min(1 2))", 13);
    }

    /** One = in each form of a ROW, no other sign and no second one in its place. */
    private static void eachRowHasItsMark() {
        String[] left = {"r0", "r0", "r0", "r0", "a[0]", "a[1*i-2]"};
        String[] right = {"i + 1", "-7 + 1", "min(1 2)", "b[2*i]", "r1", "-3"};
        for (int k = 0; k < left.length; k++) {
            int at = left[k].length() + 1;
            right(left[k] + " = " + right[k], 1);
            wrong(left[k] + " " + right[k], at);
            for (String other : new String[] {"==", "+", "-", "<", "<<", "(", "[", "]", "i", "1", "r2", "c", "max", ":="}) {
                wrong(left[k] + " " + other + " " + right[k], other.equals("==") ? at + 1 : at);
            }
            wrong(left[k] + " = = " + right[k], at + 2);
            wrong(left[k] + " =", at + 1);
            wrong("= " + right[k], 0);
        }
    }

    /** The first number, 0 to 4, with - before it or not. */
    private static void firstNumbersOfPlaces() {
        for (int c = 0; c <= 1001; c += c < 12 || c >= 245 && c < 255 || c > 990 ? 1 : 7) {
            if (c <= 4) {
                takes("[" + c + " * i]", 512 + 15 * c);
                takes("[-" + c + " * i]", 512 - 15 * c);
                takes("[" + c + " * i + 3]", 515 + 15 * c);
                takes("[- 00" + c + " * i - 3]", 509 - 15 * c);
                wrong("a[-" + c + "] = 1", 4);
            } else {
                wrong("a[" + c + " * i] = 1", 2);
                wrong("r0 = a[" + c + " * i + 1]", 7);
                wrong("a[-" + c + " * i] = 1", 3);
                wrong("r0 = a[ - " + c + " * i + 1]", 10);
                wrong("a[-" + c + "] = 1", 3);
            }
        }
        wrong("a[--1 * i] = 1", 3);
        wrong("a[+1 * i] = 1", 2);
    }

    private static void takes(String place, int number) {
        LoopForge forge = Check.of("r0 = b" + place + " d" + place + " = i");
        forge.run(false);
        Check.due("b" + place, () -> forge.register(0), number * number + 3);
        Check.due("d" + place, () -> forge.cell(3, number), 15);
    }

    /** The other number, 0 to 250. */
    private static void otherNumbersOfPlaces() {
        for (int k = 0; k <= 1001; k += k < 4 || k >= 248 && k < 258 || k > 998 ? 1 : 9) {
            if (k <= 250) {
                takes("[" + k + "]", 512 + k);
                takes("[00" + k + "]", 512 + k);
                takes("[1 * i + " + k + "]", 527 + k);
                takes("[1 * i - " + k + "]", 527 - k);
            } else {
                wrong("a[" + k + "] = 1", 2);
                wrong("r0 = a[" + k + "]", 7);
                wrong("a[1 * i + " + k + "] = 1", 10);
                wrong("r0 = a[-1 * i - " + k + "]", 16);
            }
        }
        wrong("a[1 * i + -1] = 1", 10);
        wrong("a[1 * i - -1] = 1", 10);
    }

    private static void formsOfPlaces() {
        wrong("a = 1", 2);
        wrong("a(1) = 1", 1);
        wrong("a[] = 1", 2);
        wrong("a[i] = 1", 2);
        wrong("a[r1] = 1", 2);
        wrong("a[-] = 1", 3);
        wrong("a[-i] = 1", 3);
        wrong("a[1 + 1] = 1", 4);
        wrong("a[1 i] = 1", 4);
        wrong("a[1 * ] = 1", 6);
        wrong("a[1 * 1] = 1", 6);
        wrong("a[1 * r1] = 1", 6);
        wrong("a[1 * -i] = 1", 6);
        wrong("a[i * 1] = 1", 2);
        wrong("a[1 * i 1] = 1", 8);
        wrong("a[1 * i * 1] = 1", 8);
        wrong("a[1 * i +] = 1", 9);
        wrong("a[1 * i + i] = 1", 10);
        wrong("a[1 * i + 1 + 1] = 1", 12);
        wrong("a[1 * i + 1) = 1", 11);
        // Only a * behind it shows that a number from 5 to 250 is one to multiply by, and is too great.
        wrong("a[5 i] = 1", 4);
        wrong("a[5 + 1] = 1", 4);
        wrong("a[5 ?", 4);
        wrong("a[5", 3);
        wrong("a[5 *", 2);
        wrong("a[5 * ?", 2);
    }

    /** A text cut at each byte; of the signs that are cut, numbers and registers may stand. */
    private static void eachEarlyEnd() {
        String text = "r12=min(i -10)d[-4*i+25]=r3 r1=r31<<-7 r2=b[0]";
        int[] due = {
            0, 0, 2, 3, 4, 4, 4, 7, 8, 9, 10, 11, 12, 13, -1, 15, 16, 17, 18, 19, 20, 21, 22, 23, 24, 25, 25, -1,
            -1, 28, 30, 31, 31, 33, 34, 35, 36, 37, -1, -1, 39, 41, 42, 43, 44, 45, -1};
        for (int n = 0; n <= text.length(); n++) {
            LoopForge forge = new LoopForge();
            Check.same("text of " + text.substring(0, n), Check.read(forge, text.substring(0, n)), due[n]);
            Check.same("reason of it", forge.count(1), due[n] < 0 ? 0 : 1);
        }
    }

    private static String many(String row, int rows) {
        StringBuilder text = new StringBuilder();
        for (int x = 0; x < rows; x++) {
            text.append(row);
        }
        return text.toString();
    }

    private static void rows1To48() {
        wrong("", 0);
        wrong("  ", 2);
        right("a[0]=1", 1);
        for (String row : new String[] {"a[0]=1 ", "d[-4*i+250]=-1000\n", "b [ 1 * i - 2 ] = i ; set\n"}) {
            for (int rows = 46; rows <= 48; rows++) {
                right(many(row, rows), rows);
            }
            int full = 48 * row.length();
            wrong(many(row, 49), full);
            wrong(many(row, 60), full);
            wrong(many(row, 48) + " r1=1+1", full + 1);
            wrong(many(row, 48) + "\n; a remark\n\tr1", full + 13);
            wrong(many(row, 48) + " ?", full + 1);
            wrong(many(row, 48) + " 7", full + 1);
            wrong(many(row, 48) + " r32", full + 1);
            right(many(row, 48) + "\n; a remark\n\t", 48);
            wrong(many(row, 47) + "a[0]", full - row.length() + 4);
        }
        StringBuilder text = new StringBuilder();
        for (int r = 0; r < 32; r++) {
            text.append("r" + r + "=max(-1000 -1000)");
        }
        right(text + many("a[0]=1", 16), 48);
        wrong(text + many("a[0]=1", 17), text.length() + 96);
    }

    private static void rowsAreFullAt4096Bytes() {
        String row = "d[ -4 * i + 250 ] = -1000 ; with this remark, the row is one of eighty-five bytes ..\n";
        String text = many(row, 48);
        Check.same("bytes", text.length(), 4080);
        String blanks = many(" ", 4096 - text.length());
        right(text + blanks, 48);
        right(blanks + text, 48);
        wrong(blanks.substring(1) + text + "?", 4095);
        wrong(many("=", 4096), 0);
        wrong("a[0]=1" + many(")", 4090), 6);
        wrong("r0=" + many("1", 4093), 3);
        wrong("r0=i+" + many("0", 4089) + "1r", 4095);
        right("r0=i+" + many("0", 4090) + "1", 1);
        wrong(many(";", 4096), 4096);
        wrong("r0=i" + many(" ", 4092), 4096);
    }

    private static void setTwice() {
        reads("r0=i+1 r0=i+1", 7, 2, 0);
        reads("r0=i+1 r00=i+1", 7, 2, 0);
        reads("r31=a[0] r30=a[0] r31=i*i", 18, 2, 0);
        reads("r5=min(r5 r5) r6=r5+r5 r5=max(r6 r6)", 23, 2, 0);
        reads("r1=1+1 r2=1+1 r2=1+1 r1=1+1", 14, 2, 0);
        reads("r1=1+1 r2=1+1 r1=1+1 r2=1+1", 14, 2, 0);
        reads("r1=1+1;r1=\n\t r1=1+1", 13, 2, 0);
        reads("r9=1+1" + many("a[0]=1", 46) + "r9=1+1", 282, 2, 0);
        // A use before or behind is none, and neither are sets of one ARRAY.
        right("r0=r1+r1 r1=r0+r0 a[0]=r0 a[0]=r0", 4);
    }

    private static void theFirstWrongSignIsTold() {
        wrong("r0 = ? + ?", 5);
        wrong("r0 = 1 + r32 r0 = 1001 + 1", 9);
        wrong("r0 = 1001 + r32", 5);
        wrong("r0 = 1 1001", 7);
        wrong("a[251 ? 251", 2);
        wrong("a[1 * i + 251 ?", 10);
        wrong(many("a[0]=1 ", 47) + "a[0]=? a[0]=1", 334);
        wrong(many("a[0]=1 ", 48) + "? a[0]=?", 336);
    }

    /** Before, in place of and behind each sign of each form, in the first ROW and behind another. */
    private static void whatIsNoSignStandsNowhere() {
        String[] rows = {"r1 = r2 << - 7", "r1 = min ( i r2 )", "r1 = i * 7", "r3 = b [ - 4 * i + 250 ]",
            "c [ 2 * i ] = - 9", "d [ 17 ] = i"};
        String[] none = {"1001", "0001001", "99999999999", "r32", "r99", "r", "rr1", "R1", ">", ">=", "m", "mi", "ma",
            "mx", "e", "I", "A", "?", ",", "{", "\"", "\0", "\u00ff"};
        for (String row : rows) {
            String[] signs = row.split(" ");
            for (int k = 0; k <= signs.length; k++) {
                String before = String.join(" ", java.util.Arrays.copyOf(signs, k)) + " ";
                String behind = " " + String.join(" ", java.util.Arrays.copyOfRange(signs, k, signs.length));
                String next = behind.replaceFirst("^ [^ ]+", "");
                for (String one : none) {
                    wrong(before + one + behind, before.length());
                    wrong(before + one + next, before.length());
                    wrong("r0 = i + 1 " + before + one + behind, 11 + before.length());
                }
            }
        }
    }

    private static void reason1GoesBeforeReason2() {
        wrong("r0=i+1 r0=i+1 ?", 14);
        wrong("r0=i+1 r0=i+1 r0", 16);
        wrong("r0=i+1 r0=i+", 12);
        wrong("r0=i+1 r0=i+1 r32=1+1", 14);
        wrong("r0=1+1 r0=1+1 " + many("a[0]=1 ", 47), 14 + 46 * 7);
    }

    private static void theTapeIsEmptyThen() {
        for (String text : new String[] {"", "r0=i+1", "r0=i+", "r0=i+1 r0=i+1", "?"}) {
            LoopForge forge = new LoopForge();
            Check.read(forge, text);
            Check.due("bytes behind " + text, () -> forge.count(2), 0);
            Check.argument("end(1)", () -> forge.end(1));
            Check.due("text of nothing", forge::text, 0);
            Check.due("reason", () -> forge.count(1), 1);
            Check.due("rows", () -> forge.count(0), 0);
        }
    }

    private static void aWrongTextLeavesNoLoop() {
        for (String text : new String[] {"", "?", "r0=i+1 ?", "r0=i+1 r0=i+1", many("a[0]=1 ", 49)}) {
            for (States state : States.values()) {
                LoopForge forge = state.make();
                forge.end(0);
                Check.same("wrong", Check.read(forge, text) >= 0, true);
                for (int k = 0; k <= 11; k++) {
                    int what = k;
                    int due = what != 1 ? 0 : text.startsWith("r0=i+1 r0") ? 2 : 1;
                    Check.due("count " + what + " behind " + state, () -> forge.count(what), due);
                }
                Check.bounds("delay", () -> forge.delay(0, 0, 0));
                Check.state("lay", forge::lay);
                Check.state("row", () -> forge.row(0, 0));
                Check.state("run", () -> forge.run(false));
                Check.state("run as laid", () -> forge.run(true));
                Check.state("register", () -> forge.register(0));
                Check.state("cell", () -> forge.cell(0, 0));
            }
        }
    }

    private static void aRightTextReplacesTheLoop() {
        for (States state : States.values()) {
            LoopForge forge = state.make();
            forge.end(0);
            Check.due("text", () -> Check.read(forge, "r9 = r0 + 1 a[0] = r1"), -1);
            LoopForge twin = state.make();
            twin.end(0);
            Check.read(twin, "?");
            Check.read(twin, "r9 = r0 + 1 a[0] = r1");
            States.alike("the loop behind " + state, States.loopSeen(forge), States.loopSeen(twin));
            Check.due("rows", () -> forge.count(0), 2);
            Check.due("reason", () -> forge.count(1), 0);
            // No ROW sets r0, r1 and r2 any more.
            Check.due("waits", () -> forge.count(3), 1);
            Check.due("steps", () -> forge.run(false), state == States.NEW ? 32 : 20);
            Check.due("r9", () -> forge.register(9), 1);
            Check.due("r2", () -> forge.register(2), state == States.NEW ? 0 : -3);
        }
    }

    /** One object reads, lays and runs two texts: of the second all is as if there were no first. */
    private static void nothingOfTheTextBeforeIsLeft() {
        String[] texts = {
            "r0=min(r1 2) r1=max(r0 3) r2=r2+1", "r0=a[5] r1=a[1*i] a[2*i]=r1", "a[-3*i-9]=r0 a[0]=1 r0=a[7]",
            "r0=r1*r2 r1=r0*r2 r2=r0*r1", "r0=a[5] r2=a[1*i] a[2*i]=i", "r0=i+1 r1=r0*1",
            "a[0]=i b[1*i]=i c[-1*i]=-1 d[3]=r1", "r2=r2*3",
            "r5=i<<1 r6=r5>>2 r7=r6|r5 r8=r7&r6 r9=r8^r7", many("a[1*i]=i ", 48), "? r0=r1+r2", "r3=1+1 r3=1+1"};
        for (String first : texts) {
            for (String second : texts) {
                LoopForge forge = new LoopForge();
                Check.read(forge, first);
                layAndRun(forge);
                Check.read(forge, second);
                LoopForge fresh = new LoopForge();
                Check.read(fresh, second);
                layAndRun(forge);
                layAndRun(fresh);
                States.alike(second + " behind " + first, States.planSeen(forge), States.planSeen(fresh));
            }
        }
    }

    private static void layAndRun(LoopForge forge) {
        if (forge.count(0) > 0) {
            forge.lay();
            forge.run(true);
        }
    }

    private static void takesLayingAndRunAway() {
        for (States state : States.values()) {
            // The same text again, too.
            for (String text : new String[] {States.LOOP, "a[0] = 1"}) {
                LoopForge forge = state.make();
                forge.end(0);
                Check.due("text", () -> Check.read(forge, text), -1);
                for (int k = 6; k <= 11; k++) {
                    int what = k;
                    Check.due("count " + what + " behind " + state, () -> forge.count(what), 0);
                }
                Check.state("row", () -> forge.row(0, 0));
                Check.state("run as laid", () -> forge.run(true));
                Check.state("register", () -> forge.register(0));
                Check.state("cell", () -> forge.cell(0, 0));
            }
        }
    }

    private static void leavesSettingsAndBegins() {
        for (String text : new String[] {"?", "r3 = 1 + 1"}) {
            LoopForge forge = new LoopForge();
            int[] settings = {2, 4, 6, 8, 3, 5, 7, 9, 11};
            for (int k = 0; k < 9; k++) {
                forge.set(k, settings[k]);
            }
            for (int r = 0; r < 32; r++) {
                forge.begin(r, 1000 + r);
            }
            Check.read(forge, text);
            for (int k = 0; k < 9; k++) {
                int what = k;
                Check.due("set " + what, () -> forge.set(what, 1), settings[what]);
            }
            for (int k = 0; k < 32; k++) {
                int r = k;
                Check.due("begin " + r, () -> forge.begin(r, 1), 1000 + r);
            }
        }
    }
}
