import java.util.ArrayList;
import java.util.HashSet;
import java.util.List;
import java.util.Map;
import java.util.Set;
import java.util.TreeMap;

/** The document once more, as slowly and as plainly as can be, to compare the class with. */
final class Oracle {
    record Sign(String text, int place) {
    }

    /** Sides of -1 are none; sort 'r', 'i' or 'n'. */
    record Side(char sort, int value) {
    }

    record Line(String op, int target, int array, int c, int k, Side left, Side right) {
        int kind() {
            return op.equals("*") ? 1 : op.equals("take") ? 2 : op.equals("set") ? 3 : 0;
        }

        boolean uses(int register) {
            return register >= 0 && (isRegister(left, register) || isRegister(right, register));
        }

        private static boolean isRegister(Side side, int register) {
            return side != null && side.sort() == 'r' && side.value() == register;
        }
    }

    record Wait(int x, int y, int d) {
    }

    static final int ROUNDS = 8;

    final int[] set = {1, 3, 4, 1, 2, 1, 1, 4, 16};
    final int[] begin = new int[32];
    List<Line> rows = new ArrayList<>();
    int wrong = -1;
    int reason;
    final Map<String, Integer> delays = new TreeMap<>();
    final List<Wait> waits = new ArrayList<>();

    int distance;
    int tries;
    int[] cycle;
    int[] height;
    int[] from;
    int[] to;
    int[] offset;
    int need;
    int size;

    int[] registers;
    int[][] cells;

    // ---- texts

    private static final String[] SIDES = {"R", "i", "N", "- N"};
    private static final String[] SPOTS = {
        "[ K ]", "[ C * i ]", "[ - C * i ]",
        "[ C * i + K ]", "[ C * i - K ]", "[ - C * i + K ]", "[ - C * i - K ]"};
    private static final String[] OPS = {"+", "-", "*", "&", "|", "^", "<<", ">>", "<"};

    /** All forms of a ROW, as words for signs. */
    private static List<String[]> forms() {
        List<String[]> forms = new ArrayList<>();
        for (String spot : SPOTS) {
            forms.add(("R = A " + spot).split(" "));
            for (String side : SIDES) {
                forms.add(("A " + spot + " = " + side).split(" "));
            }
        }
        for (String left : SIDES) {
            for (String right : SIDES) {
                for (String op : OPS) {
                    forms.add(("R = " + left + " " + op + " " + right).split(" "));
                }
                forms.add(("R = min ( " + left + " " + right + " )").split(" "));
                forms.add(("R = max ( " + left + " " + right + " )").split(" "));
            }
        }
        return forms;
    }

    private static final List<String[]> FORMS = forms();

    private static boolean fits(String form, String sign) {
        boolean number = Character.isDigit(sign.charAt(0));
        switch (form) {
            case "R":
                return sign.charAt(0) == 'r';
            case "A":
                return sign.matches("[abcd]");
            case "N":
                return number;
            case "C":
                return number && Integer.parseInt(sign) <= 4;
            case "K":
                return number && Integer.parseInt(sign) <= 250;
            default:
                return form.equals(sign);
        }
    }

    /** The longest sign that the text begins with, "!" for none or one that is too great. */
    private static String signOf(String rest) {
        String best = "";
        for (String form : new String[] {"a", "b", "c", "d", "i", "+", "-", "*", "&", "|", "^", "<<", ">>", "<",
            "=", "[", "]", "(", ")", "min", "max"}) {
            if (rest.startsWith(form) && form.length() > best.length()) {
                best = form;
            }
        }
        if (rest.matches("(?s)r[0-9].*")) {
            best = rest.matches("(?s)r[0-9][0-9].*") ? rest.substring(0, 3) : rest.substring(0, 2);
            return Integer.parseInt(best.substring(1)) > 31 ? "!" : best;
        }
        if (rest.matches("(?s)[0-9].*")) {
            String digits = rest.replaceFirst("(?s)[^0-9].*", "");
            return new java.math.BigInteger(digits).bitLength() > 10 || Integer.parseInt(digits) > 1000 ? "!" : digits;
        }
        return best.isEmpty() ? "!" : best;
    }

    /** The signs, then "" for the end; none behind a "!". */
    private static List<Sign> signs(String text) {
        List<Sign> signs = new ArrayList<>();
        int at = 0;
        while (at < text.length()) {
            char c = text.charAt(at);
            if (c == 9 || c == 10 || c == 13 || c == 32) {
                at++;
            } else if (c == ';') {
                while (at < text.length() && text.charAt(at) != 10) {
                    at++;
                }
            } else {
                String sign = signOf(text.substring(at));
                signs.add(new Sign(sign, at));
                if (sign.equals("!")) {
                    return signs;
                }
                at += sign.length();
            }
        }
        signs.add(new Sign("", text.length()));
        return signs;
    }

    int read(String text) {
        forget();
        rows = new ArrayList<>();
        List<Sign> signs = signs(text);
        List<Integer> firsts = new ArrayList<>();
        List<String> row = new ArrayList<>();
        for (int s = 0; s < signs.size(); s++) {
            String sign = signs.get(s).text();
            boolean whole = isWhole(row);
            if (sign.isEmpty() && whole) {
                break;
            }
            boolean goesOn = canStand(row, sign);
            if (!goesOn && whole) {
                row = new ArrayList<>();
                goesOn = firsts.size() < 48 && canStand(row, sign);
            }
            if (!goesOn) {
                return fails(1, placeOf(signs, s, row));
            }
            if (row.isEmpty()) {
                firsts.add(signs.get(s).place());
            }
            row.add(sign);
            if (isWhole(row) && !canGoOn(row, s + 1 < signs.size() ? signs.get(s + 1).text() : "")) {
                rows.add(line(row));
            }
        }
        return findTwice(firsts);
    }

    /** A number whose * shows it to be too great is WRONG itself. */
    private static int placeOf(List<Sign> signs, int s, List<String> row) {
        boolean spot = row.size() >= 2 && row.get(row.size() - 2).equals("[");
        boolean number = spot && Character.isDigit(row.get(row.size() - 1).charAt(0));
        return signs.get(number && signs.get(s).text().equals("*") ? s - 1 : s).place();
    }

    private int fails(int why, int place) {
        rows = new ArrayList<>();
        reason = why;
        wrong = place;
        return place;
    }

    private int findTwice(List<Integer> firsts) {
        Set<Integer> seen = new HashSet<>();
        for (int x = 0; x < rows.size(); x++) {
            if (rows.get(x).target() >= 0 && !seen.add(rows.get(x).target())) {
                return fails(2, firsts.get(x));
            }
        }
        reason = 0;
        wrong = -1;
        return -1;
    }

    private static boolean canGoOn(List<String> row, String sign) {
        return !sign.isEmpty() && !sign.equals("!") && canStand(row, sign);
    }

    private static boolean canStand(List<String> row, String sign) {
        if (sign.isEmpty() || sign.equals("!")) {
            return false;
        }
        for (String[] form : FORMS) {
            if (form.length > row.size() && begins(form, row) && fits(form[row.size()], sign)) {
                return true;
            }
        }
        return false;
    }

    private static boolean begins(String[] form, List<String> row) {
        for (int k = 0; k < row.size(); k++) {
            if (!fits(form[k], row.get(k))) {
                return false;
            }
        }
        return true;
    }

    private static boolean isWhole(List<String> row) {
        for (String[] form : FORMS) {
            if (form.length == row.size() && begins(form, row)) {
                return true;
            }
        }
        return false;
    }

    private static Line line(List<String> row) {
        String all = String.join(" ", row);
        int is = row.indexOf("=");
        if (row.get(0).charAt(0) != 'r') {
            return spotLine("set", -1, row.subList(0, is), side(row.subList(is + 1, row.size())));
        }
        int target = Integer.parseInt(row.get(0).substring(1));
        List<String> behind = row.subList(2, row.size());
        if (behind.get(0).matches("[abcd]")) {
            return spotLine("take", target, behind, null);
        }
        String op;
        if (all.contains("(")) {
            op = behind.get(0);
            behind = behind.subList(2, behind.size() - 1);
        } else {
            int at = behind.get(0).equals("-") ? 2 : 1;
            op = behind.get(at);
            List<String> rest = new ArrayList<>(behind);
            rest.remove(at);
            behind = rest;
        }
        int cut = behind.get(0).equals("-") ? 2 : 1;
        return new Line(op, target, -1, 0, 0, side(behind.subList(0, cut)), side(behind.subList(cut, behind.size())));
    }

    private static Line spotLine(String op, int target, List<String> spot, Side side) {
        int array = spot.get(0).charAt(0) - 'a';
        String inside = String.join("", spot.subList(2, spot.size() - 1));
        int c = 0;
        int k = 0;
        if (inside.contains("*")) {
            String[] parts = inside.split("\\*i", -1);
            c = Integer.parseInt(parts[0]);
            k = parts[1].isEmpty() ? 0 : Integer.parseInt(parts[1]);
        } else {
            k = Integer.parseInt(inside);
        }
        return new Line(op, target, array, c, k, side, null);
    }

    private static Side side(List<String> words) {
        String all = String.join("", words);
        if (all.charAt(0) == 'r') {
            return new Side('r', Integer.parseInt(all.substring(1)));
        }
        return all.equals("i") ? new Side('i', 0) : new Side('n', Integer.parseInt(all));
    }

    // ---- waits

    int set(int what, int v) {
        int was = set[what];
        set[what] = v;
        forget();
        return was;
    }

    private void forget() {
        distance = 0;
        tries = 0;
        need = 0;
        size = 0;
        waits.clear();
        delays.clear();
    }

    void findWaits() {
        waits.clear();
        delays.clear();
        for (int x = 0; x < rows.size(); x++) {
            for (int y = 0; y < rows.size(); y++) {
                Line first = rows.get(x);
                Line second = rows.get(y);
                if (second.uses(first.target())) {
                    note(x, y, y > x ? 0 : 1, time(x));
                }
                if (first.array() >= 0 && first.array() == second.array()
                        && (first.kind() == 3 || second.kind() == 3)) {
                    int d = meet(first, second, y > x ? 0 : 1);
                    if (d >= 0) {
                        note(x, y, d, first.kind() == 2 ? 0 : second.kind() == 3 ? 1 : time(x));
                    }
                }
            }
        }
    }

    private int meet(Line x, Line y, int least) {
        for (int d = least; d < set[ROUNDS]; d++) {
            for (int n = 0; n + d < set[ROUNDS]; n++) {
                if (x.c() * n + x.k() == y.c() * (n + d) + y.k()) {
                    return d;
                }
            }
        }
        return -1;
    }

    private int time(int x) {
        return set[rows.get(x).kind()];
    }

    private static String key(int x, int y, int d) {
        return x + "," + y + "," + d;
    }

    private void note(int x, int y, int d, int cycles) {
        if (delays.merge(key(x, y, d), cycles, Math::max) == cycles && !waits.contains(new Wait(x, y, d))) {
            waits.add(new Wait(x, y, d));
        }
    }

    Integer delay(int x, int y, int d) {
        return delays.get(key(x, y, d));
    }

    private int weight(Wait w, int atDistance) {
        return delay(w.x(), w.y(), w.d()) - w.d() * atDistance;
    }

    int leastByUnits() {
        int[] many = new int[4];
        for (Line row : rows) {
            for (int group : groups(row)) {
                many[group]++;
            }
        }
        int least = 1;
        while (many[0] > least * set[7] || many[1] > least * set[4] || many[2] > least * set[5]
                || many[3] > least * set[6]) {
            least++;
        }
        return least;
    }

    private static int[] groups(Line row) {
        switch (row.kind()) {
            case 0:
                return new int[] {0, 1};
            case 1:
                return new int[] {0, 1, 3};
            default:
                return new int[] {0, 2};
        }
    }

    int leastByCircles() {
        int least = 1;
        while (hasBadCircle(least)) {
            least++;
        }
        return least;
    }

    private boolean hasBadCircle(int atDistance) {
        int n = rows.size();
        long[][] far = new long[n][n];
        for (long[] line : far) {
            java.util.Arrays.fill(line, Long.MIN_VALUE / 4);
        }
        for (Wait w : waits) {
            far[w.x()][w.y()] = Math.max(far[w.x()][w.y()], weight(w, atDistance));
        }
        for (int k = 0; k < n; k++) {
            for (int x = 0; x < n; x++) {
                for (int y = 0; y < n; y++) {
                    // Circles would double the sums with each turn.
                    far[x][y] = Math.min(Math.max(far[x][y], far[x][k] + far[k][y]), 1L << 40);
                }
            }
        }
        for (int x = 0; x < n; x++) {
            if (far[x][x] > 0) {
                return true;
            }
        }
        return false;
    }

    private int[] heights(int atDistance) {
        int[] high = new int[rows.size()];
        for (int length = 0; length <= rows.size(); length++) {
            int[] next = high.clone();
            for (Wait w : waits) {
                next[w.x()] = Math.max(next[w.x()], weight(w, atDistance) + high[w.y()]);
            }
            high = next;
        }
        return high;
    }

    // ---- laying

    int lay() {
        findWaits();
        for (int trial = Math.max(leastByUnits(), leastByCircles()); trial <= 200; trial++) {
            if (layAt(trial) && findSpans(trial)) {
                distance = trial;
                return trial;
            }
        }
        distance = 0;
        return 0;
    }

    private boolean layAt(int trial) {
        int n = rows.size();
        height = heights(trial);
        Integer[] got = new Integer[n];
        Integer[] last = new Integer[n];
        tries = 0;
        while (tries < 8 * n && java.util.Arrays.asList(got).contains(null)) {
            int x = -1;
            for (int k = 0; k < n; k++) {
                if (got[k] == null && (x < 0 || height[k] > height[x])) {
                    x = k;
                }
            }
            got[x] = cycleFor(x, got, last[x], trial);
            last[x] = got[x];
            loseOthers(x, got, trial);
            tries++;
        }
        if (java.util.Arrays.asList(got).contains(null)) {
            return false;
        }
        int least = java.util.Arrays.stream(got).mapToInt(v -> v).min().getAsInt();
        cycle = java.util.Arrays.stream(got).mapToInt(v -> v - least).toArray();
        return true;
    }

    private int cycleFor(int x, Integer[] got, Integer last, int trial) {
        int earliest = 0;
        for (Wait w : waits) {
            if (w.y() == x && w.x() != x && got[w.x()] != null) {
                earliest = Math.max(earliest, got[w.x()] + weight(w, trial));
            }
        }
        for (int t = earliest; t < earliest + trial; t++) {
            if (fullGroup(x, t, got, trial) < 0) {
                return t;
            }
        }
        return last != null && earliest <= last ? last + 1 : earliest;
    }

    /** The first of the groups of the ROW that has no room for it, besides itself, or -1. */
    private int fullGroup(int x, int t, Integer[] got, int trial) {
        int[] room = {set[7], set[4], set[5], set[6]};
        for (int group : groups(rows.get(x))) {
            int many = 0;
            for (int k = 0; k < rows.size(); k++) {
                if (k != x && isThere(k, group, t, got, trial)) {
                    many++;
                }
            }
            if (many >= room[group]) {
                return group;
            }
        }
        return -1;
    }

    private boolean isThere(int k, int group, int t, Integer[] got, int trial) {
        boolean in = false;
        for (int g : groups(rows.get(k))) {
            in |= g == group;
        }
        return in && got[k] != null && got[k] % trial == t % trial;
    }

    private void loseOthers(int x, Integer[] got, int trial) {
        int group = fullGroup(x, got[x], got, trial);
        while (group >= 0) {
            int k = rows.size() - 1;
            while (k == x || !isThere(k, group, got[x], got, trial)) {
                k--;
            }
            got[k] = null;
            group = fullGroup(x, got[x], got, trial);
        }
        Set<Integer> lose = new HashSet<>();
        for (Wait w : waits) {
            boolean mine = w.x() == x || w.y() == x;
            if (mine && got[w.x()] != null && got[w.y()] != null
                    && got[w.y()] < got[w.x()] + weight(w, trial)) {
                lose.add(w.x() == x ? w.y() : w.x());
            }
        }
        for (int k : lose) {
            got[k] = null;
        }
    }

    int greatest() {
        return java.util.Arrays.stream(cycle).max().getAsInt();
    }

    // ---- registers

    private boolean findSpans(int trial) {
        int n = rows.size();
        from = new int[n];
        to = new int[n];
        for (int x = 0; x < n; x++) {
            from[x] = -1;
            to[x] = -1;
            for (int y = 0; y < n; y++) {
                if (rows.get(y).uses(rows.get(x).target())) {
                    from[x] = cycle[x] + time(x);
                    to[x] = Math.max(to[x], cycle[y] + (y > x ? 0 : trial));
                }
            }
        }
        need = 0;
        for (int t = 0; t < trial; t++) {
            int alive = 0;
            for (int x = 0; x < n; x++) {
                for (int at = from[x]; from[x] >= 0 && at <= to[x]; at++) {
                    alive += at % trial == t ? 1 : 0;
                }
            }
            need = Math.max(need, alive);
        }
        if (need > 96) {
            return false;
        }
        for (size = Math.max(1, need); size <= 128; size++) {
            if (colours(trial)) {
                return true;
            }
        }
        return false;
    }

    private boolean colours(int trial) {
        List<Integer> order = new ArrayList<>();
        for (int x = 0; x < rows.size(); x++) {
            if (from[x] >= 0) {
                order.add(x);
            }
        }
        order.sort((x, y) -> from[x] != from[y] ? Integer.compare(from[x], from[y]) : Integer.compare(x, y));
        offset = new int[rows.size()];
        java.util.Arrays.fill(offset, -1);
        for (int x : order) {
            for (int o = 0; o < size && offset[x] < 0; o++) {
                if (isFree(x, o, trial)) {
                    offset[x] = o;
                }
            }
            if (offset[x] < 0) {
                return false;
            }
        }
        return true;
    }

    /** ROUND 0 of a SPAN against all ROUNDS of those that have an OFFSET, and its own others. */
    private boolean isFree(int x, int o, int trial) {
        for (int k = 0; k < rows.size(); k++) {
            if (k != x && offset[k] < 0) {
                continue;
            }
            int far = (Math.abs(from[x] - from[k]) + to[x] - from[x] + to[k] - from[k]) / trial + 2;
            for (int n = -far; n <= far; n++) {
                int place = Math.floorMod((k == x ? o : offset[k]) - n, size);
                boolean meets = from[k] + n * trial <= to[x] && to[k] + n * trial >= from[x];
                if (!(k == x && n == 0) && place == o && meets) {
                    return false;
                }
            }
        }
        return true;
    }

    // ---- runs

    int runWritten() {
        registers = begin.clone();
        cells = new int[4][1024];
        for (int k = 0; k < 4096; k++) {
            cells[k / 1024][k % 1024] = first(k / 1024, k % 1024);
        }
        int steps = 0;
        for (int i = 0; i < set[ROUNDS]; i++) {
            for (Line row : rows) {
                steps++;
                int spot = 512 + row.c() * i + row.k();
                if (row.kind() == 3) {
                    cells[row.array()][spot] = value(row.left(), i);
                } else if (row.kind() == 2) {
                    registers[row.target()] = cells[row.array()][spot];
                } else {
                    registers[row.target()] = reckon(row.op(), value(row.left(), i), value(row.right(), i));
                }
            }
        }
        return steps;
    }

    static int first(int a, int j) {
        return a == 0 ? (j * 7) ^ 21 : a == 1 ? j * j + 3 : a == 2 ? 5 - j : 0;
    }

    int cycles() {
        int last = 0;
        for (int x = 0; x < rows.size(); x++) {
            last = Math.max(last, cycle[x] + time(x));
        }
        return last + (set[ROUNDS] - 1) * distance;
    }

    private int value(Side side, int i) {
        return side.sort() == 'r' ? registers[side.value()] : side.sort() == 'i' ? i : side.value();
    }

    private static int reckon(String op, int a, int b) {
        switch (op) {
            case "+":
                return a + b;
            case "-":
                return a - b;
            case "*":
                return a * b;
            case "&":
                return a & b;
            case "|":
                return a | b;
            case "^":
                return a ^ b;
            case "<<":
                return a << b;
            case ">>":
                return a >> b;
            case "<":
                return a < b ? 1 : 0;
            case "min":
                return Math.min(a, b);
            default:
                return Math.max(a, b);
        }
    }
}
