import java.util.ArrayList;
import java.util.Collections;
import java.util.List;
import java.util.Random;

/** Texts of loops, by a seeded source. */
final class Texts {
    private static final String[] OPS = {"+", "-", "*", "&", "|", "^", "<<", ">>", "<", "*"};
    private static final String[] SIGNS = {"r0", "r31", "r32", "r7", "a", "b", "c", "d", "i", "0", "4", "5", "250",
        "251", "1000", "1001", "+", "-", "*", "&", "|", "^", "<<", ">>", "<", ">", "=", "[", "]", "(", ")", "min",
        "max", "m", "r", "?", ";", "\n", "99999999999999"};

    private final Random random;
    private final int registers;
    private final int reach;
    private final int takes;

    private Texts(Random random) {
        this.random = random;
        registers = 3 + random.nextInt(30);
        reach = 1 + random.nextInt(6);
        takes = 1 + random.nextInt(8);
    }

    static String loop(Random random) {
        Texts texts = new Texts(random);
        int rows = random.nextInt(4) == 0 ? 1 + random.nextInt(48) : 1 + random.nextInt(16);
        List<Integer> free = new ArrayList<>();
        for (int r = 0; r < 32; r++) {
            free.add(r);
        }
        if (random.nextInt(3) > 0) {
            Collections.shuffle(free, random);
        }
        StringBuilder text = new StringBuilder();
        for (int x = 0; x < rows; x++) {
            text.append(free.isEmpty() || random.nextInt(6) == 0 ? texts.setRow() : texts.row(free.remove(0)));
            text.append(random.nextInt(9) == 0 ? " ; a remark r1 ?\n" : random.nextInt(5) == 0 ? "\t\r\n" : " ");
        }
        return text.toString();
    }

    /** Each ROW uses the one before, and one far before; often all of it is a circle. */
    static String chain(Random random) {
        int rows = 2 + random.nextInt(31);
        boolean circle = random.nextBoolean();
        StringBuilder text = new StringBuilder();
        for (int x = 0; x < rows; x++) {
            int before = x > 0 ? x - 1 : circle ? rows - 1 : 31;
            String op = OPS[random.nextInt(OPS.length)];
            text.append("r" + x + " = r" + before + " " + op + " r" + random.nextInt(x + 1) + "\n");
        }
        return text.toString();
    }

    /** A loop with some signs or bytes put in, left out or changed. */
    static String spoilt(Random random) {
        StringBuilder text = new StringBuilder(loop(random));
        if (text.length() > 300 && random.nextInt(4) > 0) {
            text.setLength(60 + random.nextInt(200));
        }
        for (int k = random.nextInt(3); k >= 0; k--) {
            int at = random.nextInt(text.length() + 1);
            String sign = SIGNS[random.nextInt(SIGNS.length)];
            switch (random.nextInt(5)) {
                case 0:
                    text.insert(at, sign);
                    break;
                case 1:
                    text.insert(at, " " + sign + " ");
                    break;
                case 2:
                    text.delete(at, Math.min(text.length(), at + 1 + random.nextInt(3)));
                    break;
                case 3:
                    text.setLength(at);
                    break;
                default:
                    if (at < text.length()) {
                        text.setCharAt(at, (char) random.nextInt(256));
                    }
                    break;
            }
        }
        return text.toString();
    }

    private String setRow() {
        return spot() + " = " + side();
    }

    private String row(int target) {
        String to = "r" + target + (random.nextBoolean() ? " = " : "=");
        if (random.nextInt(8) < Math.min(3, takes)) {
            return to + spot();
        }
        if (random.nextInt(7) == 0) {
            return to + (random.nextBoolean() ? "min(" : "max (") + side() + " " + side() + ")";
        }
        return to + side() + " " + OPS[random.nextInt(OPS.length)] + side();
    }

    private String side() {
        switch (random.nextInt(7)) {
            case 0:
                return "i";
            case 1:
                return Integer.toString(random.nextInt(1001));
            case 2:
                return "-" + random.nextInt(20);
            default:
                return "r" + random.nextInt(Math.min(registers, 32));
        }
    }

    private String spot() {
        String array = Character.toString((char) ('a' + random.nextInt(1 + random.nextInt(4))));
        String by = (random.nextInt(4) == 0 ? "-" : "") + random.nextInt(random.nextBoolean() ? 3 : 5);
        int k = random.nextInt(5) == 0 ? random.nextInt(251) : random.nextInt(2 * reach);
        switch (random.nextInt(6)) {
            case 0:
                return array + "[" + k + "]";
            case 1:
                return array + "[" + by + "*i]";
            default:
                return array + "[" + by + " * i " + (random.nextBoolean() ? "+" : "-") + k + "]";
        }
    }
}
