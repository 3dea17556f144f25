import java.util.Arrays;
import java.util.NoSuchElementException;

/** Loops laid over one another for a machine that begins several operations a cycle. */
public final class LoopForge {
    private static final int TAPE_LIMIT = 4096;
    private static final int FEED_BYTES = 20;
    private static final int MAX_ROWS = 48;
    private static final int REGISTERS = 32;
    private static final int ARRAYS = 4;
    private static final int ARRAY_INTS = 1024;
    private static final int ARRAY_MIDDLE = 512;
    private static final int NUMBER_LIMIT = 1000;
    private static final int STEP_LIMIT = 4;
    private static final int SHIFT_LIMIT = 250;

    private static final int KIND_RECKON = 0;
    private static final int KIND_TIMES = 1;
    private static final int KIND_TAKE = 2;
    private static final int KIND_SET = 3;

    private static final int SETTING_ROUNDS = 8;
    private static final int SETTINGS = 9;
    private static final int MAX_ROUNDS = 64;
    private static final int[] SETTING_FIRST = {1, 3, 4, 1, 2, 1, 1, 4, 16};
    private static final int[] SETTING_LIMIT = {20, 20, 20, 20, 8, 8, 8, 16, 64};

    private static final int GROUP_ALL = 0;
    private static final int GROUP_RECKON = 1;
    private static final int GROUP_PLACES = 2;
    private static final int GROUPS = 4;
    /** Which setting says how many ROWS of a group can begin in one cycle. */
    private static final int[] GROUP_SETTING = {7, 4, 5, 6};

    private static final int MAX_DISTANCE = 200;
    private static final int TRIES_PER_ROW = 8;
    private static final int NEED_LIMIT = 96;
    private static final int SIZE_LIMIT = 128;
    /** A circle has at most MAX_ROWS WAITS of at most 20 cycles each, and goes over one ROUND at least. */
    private static final int CIRCLE_LIMIT = 960;

    /** No ROW has more than 12 signs, so that the last of these stands in a 49th ROW, if there are so many. */
    private static final int SIGN_LIMIT = 12 * MAX_ROWS + 1;

    /** A sign of one byte is that byte; the others have these. */
    private static final int SIGN_END = -1;
    private static final int SIGN_BAD = -2;
    private static final int SIGN_REGISTER = 'r';
    private static final int SIGN_ARRAY = 'a';
    private static final int SIGN_ROUND = 'i';
    private static final int SIGN_NUMBER = '0';
    private static final int SIGN_LEFT = 256;
    private static final int SIGN_RIGHT = 257;
    private static final int SIGN_MIN = 258;
    private static final int SIGN_MAX = 259;

    private final byte[] tape;
    private int tapeLength;
    private final int[] settings;
    private final int[] begins;
    private final Loop loop;
    private final Parser parser;
    private final Waits waits;
    private final Table table;
    private final Spans spans;
    private Runner runner;
    private int reason;
    private boolean waitsKnown;
    private boolean layingKnown;
    private int distance;
    private boolean hasRun;

    public LoopForge() {
        tape = new byte[TAPE_LIMIT];
        settings = SETTING_FIRST.clone();
        begins = new int[REGISTERS];
        loop = new Loop();
        parser = new Parser(new Signs(tape), loop);
        waits = new Waits(loop, settings);
        table = new Table(loop, waits, settings);
        spans = new Spans(loop, table, settings);
    }

    public int feed(int a, int b, int c, int d, int e) throws IndexOutOfBoundsException {
        if (tapeLength > TAPE_LIMIT - FEED_BYTES) {
            throw new IndexOutOfBoundsException("the tape would have more than 4096 bytes");
        }
        appendBytes(a);
        appendBytes(b);
        appendBytes(c);
        appendBytes(d);
        appendBytes(e);
        return tapeLength;
    }

    public int end(int n) throws IllegalArgumentException {
        if (n < 0 || n > tapeLength) {
            throw new IllegalArgumentException("not 0 to the length of the tape");
        }
        tapeLength = n;
        return n;
    }

    public int text() {
        int length = tapeLength;
        tapeLength = 0;
        forgetPlan();
        reason = parser.readText(length);
        return parser.wrong;
    }

    public int set(int what, int v) throws IllegalArgumentException {
        if (what < 0 || what >= SETTINGS) {
            throw new IllegalArgumentException("no such setting");
        }
        if (v < 1 || v > SETTING_LIMIT[what]) {
            throw new IllegalArgumentException("outside of the setting's limits");
        }
        int before = settings[what];
        settings[what] = v;
        forgetPlan();
        return before;
    }

    public int begin(int r, int v) throws IllegalArgumentException {
        if (r < 0 || r >= REGISTERS) {
            throw new IllegalArgumentException("no such register");
        }
        int before = begins[r];
        begins[r] = v;
        hasRun = false;
        return before;
    }

    public int count(int what) throws IllegalArgumentException {
        if (what < 0 || what > 11) {
            throw new IllegalArgumentException("no such count");
        }
        if (what <= 2) {
            return what == 0 ? loop.size : what == 1 ? reason : tapeLength;
        }
        if (what <= 5) {
            return countWaits(what);
        }
        return distance == 0 ? 0 : countLaying(what);
    }

    public int delay(int x, int y, int d) throws IndexOutOfBoundsException, NoSuchElementException {
        if (x < 0 || x >= loop.size || y < 0 || y >= loop.size) {
            throw new IndexOutOfBoundsException("no such row");
        }
        learnWaits();
        int found = waits.find(x, y, d);
        if (found < 0) {
            throw new NoSuchElementException("no such wait");
        }
        return waits.delay[found];
    }

    public int lay() throws IllegalStateException {
        if (loop.size == 0) {
            throw new IllegalStateException("there is no loop");
        }
        if (!layingKnown) {
            learnWaits();
            layingKnown = true;
            int trial = Math.max(waits.leastByUnits, waits.leastByCircles);
            for (; distance == 0 && trial <= MAX_DISTANCE; trial++) {
                if (waits.findHeights(trial) && table.fill(trial) && spans.fit(trial)) {
                    distance = trial;
                }
            }
        }
        return distance;
    }

    public int row(int x, int what)
            throws IllegalStateException, IndexOutOfBoundsException, IllegalArgumentException {
        if (distance == 0) {
            throw new IllegalStateException("the loop is not laid");
        }
        if (x < 0 || x >= loop.size) {
            throw new IndexOutOfBoundsException("no such row");
        }
        switch (what) {
            case 0:
                return table.cycle[x];
            case 1:
                return waits.height[x];
            case 2:
                return spans.offset[x];
            case 3:
                return spans.begin[x];
            case 4:
                return spans.end[x];
            default:
                throw new IllegalArgumentException("nothing of that number is known of a row");
        }
    }

    public int run(boolean laid) throws IllegalStateException {
        if (loop.size == 0) {
            throw new IllegalStateException("there is no loop");
        }
        if (laid && distance == 0) {
            throw new IllegalStateException("the loop is not laid");
        }
        // Made with the first run, so that an object that never runs stays small.
        Runner mine = runner;
        if (mine == null) {
            mine = new Runner(loop, table, spans, settings, begins);
            runner = mine;
        }
        hasRun = true;
        return laid ? mine.runLaid(distance) : mine.runWritten();
    }

    public int register(int r) throws IllegalStateException, IllegalArgumentException {
        Runner mine = runner;
        if (!hasRun || mine == null) {
            throw new IllegalStateException("there was no run");
        }
        if (r < 0 || r >= REGISTERS) {
            throw new IllegalArgumentException("no such register");
        }
        return mine.registers[r];
    }

    public int cell(int a, int j) throws IllegalStateException, IndexOutOfBoundsException {
        Runner mine = runner;
        if (!hasRun || mine == null) {
            throw new IllegalStateException("there was no run");
        }
        if (a < 0 || a >= ARRAYS || j < 0 || j >= ARRAY_INTS) {
            throw new IndexOutOfBoundsException("no such array, or no such int of it");
        }
        return mine.cells[a * ARRAY_INTS + j];
    }

    private void appendBytes(int word) {
        for (int shift = 24; shift >= 0 && tapeLength < TAPE_LIMIT; shift -= 8) {
            tape[tapeLength] = (byte) (word >> shift);
            tapeLength++;
        }
    }

    private void forgetPlan() {
        waitsKnown = false;
        layingKnown = false;
        distance = 0;
        hasRun = false;
    }

    private void learnWaits() {
        if (!waitsKnown) {
            waits.learn();
            waitsKnown = true;
        }
    }

    private int countWaits(int what) {
        if (loop.size == 0) {
            return 0;
        }
        learnWaits();
        return what == 3 ? waits.size : what == 4 ? waits.leastByUnits : waits.leastByCircles;
    }

    private int countLaying(int what) {
        switch (what) {
            case 6:
                return distance;
            case 7:
                return quotient(table.greatest, distance) + 1;
            case 8:
                return table.tries;
            case 9:
                return table.greatest;
            case 10:
                return spans.need;
            default:
                return spans.size;
        }
    }

    /** The greatest int not above value / divisor. */
    private static int quotient(int value, int divisor) {
        return divisor > 0 ? Math.floorDiv(value, divisor) : 0;
    }

    private static int rest(int value, int divisor) {
        return divisor > 0 ? Math.floorMod(value, divisor) : 0;
    }

    private static boolean isInGroup(int kind, int group) {
        switch (group) {
            case GROUP_ALL:
                return true;
            case GROUP_RECKON:
                return kind == KIND_RECKON || kind == KIND_TIMES;
            case GROUP_PLACES:
                return kind == KIND_TAKE || kind == KIND_SET;
            default:
                return kind == KIND_TIMES;
        }
    }

    /** Over how many ROUNDS a ROW uses what another sets: what stands behind it uses it in the same. */
    private static int roundsOfUse(int setter, int user) {
        return user > setter ? 0 : 1;
    }

    private static final class Operand {
        /** SIGN_REGISTER, SIGN_ROUND or SIGN_NUMBER. */
        int sort = SIGN_NUMBER;
        int value;

        void become(int newSort, int newValue) {
            sort = newSort;
            value = newValue;
        }
    }

    private static final class Row {
        int kind;
        int operator;
        /** The register that it sets, or -1. */
        int target;
        /** Where the first sign of the ROW stands in the text. */
        int textPlace;
        /** The ARRAY of takes and sets, or -1. */
        int array;
        int step;
        int shift;
        final Operand left = new Operand();
        final Operand right = new Operand();

        void clear(int place) {
            kind = KIND_RECKON;
            operator = '+';
            target = -1;
            textPlace = place;
            array = -1;
            step = 0;
            shift = 0;
            left.become(SIGN_NUMBER, 0);
            right.become(SIGN_NUMBER, 0);
        }

        /** The number, from -512 on, of its int of the ARRAY in a ROUND. */
        int spot(int round) {
            return step * round + shift;
        }

        int reckon(int a, int b) {
            switch (operator) {
                case '+':
                    return a + b;
                case '-':
                    return a - b;
                case '*':
                    return a * b;
                case '&':
                    return a & b;
                case '|':
                    return a | b;
                case '^':
                    return a ^ b;
                case '<':
                    return a < b ? 1 : 0;
                case SIGN_LEFT:
                    return a << (b & 31);
                case SIGN_RIGHT:
                    return a >> (b & 31);
                case SIGN_MIN:
                    return a < b ? a : b;
                default:
                    return a > b ? a : b;
            }
        }
    }

    private static final class Loop {
        final Row[] rows = new Row[MAX_ROWS];
        /** 0: there is no LOOP. */
        int size;
        /** Of each register the ROW that sets it, or -1. */
        final int[] setter = new int[REGISTERS];

        Loop() {
            for (int x = 0; x < MAX_ROWS; x++) {
                rows[x] = new Row();
            }
        }

        /** The ROW that sets what the operand uses, or -1. */
        int source(Operand operand) {
            return operand.sort == SIGN_REGISTER ? setter[operand.value] : -1;
        }

        /** The text's place of the first register that is set again, or -1; up to it setters are noted. */
        int noteSetters(int newSize) {
            Arrays.fill(setter, -1);
            for (int x = 0; x < newSize; x++) {
                int target = rows[x].target;
                if (target >= 0) {
                    if (setter[target] >= 0) {
                        return rows[x].textPlace;
                    }
                    setter[target] = x;
                }
            }
            return -1;
        }
    }

    /** The signs of a text, up to the end or the first that can stand nowhere. */
    private static final class Signs {
        private final byte[] tape;
        private int length;
        private int at;
        final int[] sign = new int[SIGN_LIMIT];
        final int[] place = new int[SIGN_LIMIT];
        /** The number, or which register or ARRAY. */
        final int[] value = new int[SIGN_LIMIT];

        Signs(byte[] tape) {
            this.tape = tape;
        }

        void cut(int newLength) {
            length = newLength;
            at = 0;
            for (int k = 0; k < SIGN_LIMIT; k++) {
                skipBlanks();
                place[k] = at;
                value[k] = 0;
                sign[k] = cutOne(k);
                if (sign[k] == SIGN_END || sign[k] == SIGN_BAD) {
                    return;
                }
            }
        }

        private void skipBlanks() {
            boolean remark = false;
            for (; at < length; at++) {
                int b = byteAt(at);
                if (b == ';') {
                    remark = true;
                } else if (b == 10) {
                    remark = false;
                } else if (!remark && b != 9 && b != 13 && b != 32) {
                    return;
                }
            }
        }

        private int cutOne(int k) {
            int first = byteAt(at);
            if (first < 0) {
                return SIGN_END;
            }
            if (isDigit(first)) {
                return cutNumber(k);
            }
            if (first == 'r') {
                return cutRegister(k);
            }
            if (first >= 'a' && first <= 'd') {
                value[k] = first - 'a';
                return pass(1, SIGN_ARRAY);
            }
            return cutMark(first);
        }

        private int cutNumber(int k) {
            int number = 0;
            for (; at < length && isDigit(byteAt(at)); at++) {
                // It stays just above the limit, so that any number of digits can follow.
                number = Math.min(number * 10 + byteAt(at) - '0', NUMBER_LIMIT + 1);
            }
            value[k] = number;
            return number > NUMBER_LIMIT ? SIGN_BAD : SIGN_NUMBER;
        }

        private int cutRegister(int k) {
            at++;
            int digits = 0;
            int number = 0;
            for (; digits < 2 && isDigit(byteAt(at)); at++) {
                number = number * 10 + byteAt(at) - '0';
                digits++;
            }
            value[k] = number;
            return digits == 0 || number >= REGISTERS ? SIGN_BAD : SIGN_REGISTER;
        }

        private int cutMark(int first) {
            switch (first) {
                case '<':
                    return byteAt(at + 1) == '<' ? pass(2, SIGN_LEFT) : pass(1, first);
                case '>':
                    return byteAt(at + 1) == '>' ? pass(2, SIGN_RIGHT) : SIGN_BAD;
                case 'm':
                    return cutWord();
                case 'i', '+', '-', '*', '&', '|', '^', '=', '[', ']', '(', ')':
                    return pass(1, first);
                default:
                    return SIGN_BAD;
            }
        }

        private int cutWord() {
            int second = byteAt(at + 1);
            int third = byteAt(at + 2);
            if (second == 'i' && third == 'n') {
                return pass(3, SIGN_MIN);
            }
            return second == 'a' && third == 'x' ? pass(3, SIGN_MAX) : SIGN_BAD;
        }

        private int pass(int bytes, int found) {
            at += bytes;
            return found;
        }

        /** -1 behind the end. */
        private int byteAt(int index) {
            return index >= 0 && index < length && index < tape.length ? tape[index] & 255 : -1;
        }

        private static boolean isDigit(int b) {
            return b >= '0' && b <= '9';
        }
    }

    /**
     * Reads a text into the LOOP. The read and skip methods answer whether all could stand there; if not,
     * the parser is left at the sign that could not.
     */
    private static final class Parser {
        private final Signs signs;
        private final Loop loop;
        private int at;
        /** Where the latest text is WRONG, or -1. */
        int wrong = -1;

        Parser(Signs signs, Loop loop) {
            this.signs = signs;
            this.loop = loop;
        }

        /** The REASON for which the text is WRONG, or 0. */
        int readText(int length) {
            loop.size = 0;
            signs.cut(length);
            at = 0;
            int rows = 0;
            boolean right = true;
            for (; right && rows < MAX_ROWS && (rows == 0 || sign() != SIGN_END); rows++) {
                right = readRow(loop.rows[rows]);
            }
            if (!right || sign() != SIGN_END) {
                wrong = place();
                return 1;
            }
            wrong = loop.noteSetters(rows);
            if (wrong >= 0) {
                return 2;
            }
            loop.size = rows;
            return 0;
        }

        private boolean readRow(Row row) {
            row.clear(place());
            if (sign() != SIGN_REGISTER) {
                row.kind = KIND_SET;
                return readSpot(row) && skip('=') && readOperand(row.left);
            }
            row.target = value();
            at++;
            if (!skip('=')) {
                return false;
            }
            if (sign() != SIGN_ARRAY) {
                return readReckoning(row);
            }
            row.kind = KIND_TAKE;
            return readSpot(row);
        }

        private boolean readReckoning(Row row) {
            if (sign() != SIGN_MIN && sign() != SIGN_MAX) {
                return readOperand(row.left) && readOperator(row) && readOperand(row.right);
            }
            row.operator = sign();
            at++;
            return skip('(') && readOperand(row.left) && readOperand(row.right) && skip(')');
        }

        private boolean readOperator(Row row) {
            switch (sign()) {
                case '+', '-', '*', '&', '|', '^', '<', SIGN_LEFT, SIGN_RIGHT:
                    row.operator = sign();
                    row.kind = row.operator == '*' ? KIND_TIMES : KIND_RECKON;
                    at++;
                    return true;
                default:
                    return false;
            }
        }

        private boolean readOperand(Operand operand) {
            boolean minus = skip('-');
            int sort = sign();
            if (sort != SIGN_NUMBER && (minus || sort != SIGN_REGISTER && sort != SIGN_ROUND)) {
                return false;
            }
            operand.become(sort, minus ? -value() : value());
            at++;
            return true;
        }

        private boolean readSpot(Row row) {
            row.array = value();
            if (!skip(SIGN_ARRAY) || !skip('[')) {
                return false;
            }
            boolean minus = skip('-');
            int numberAt = at;
            int number = value();
            // Only a number that i is multiplied by has a - before it, so the - alone tells its limit.
            if (!skipNumber(minus ? STEP_LIMIT : SHIFT_LIMIT)) {
                return false;
            }
            if (!minus && sign() != '*') {
                row.shift = number;
                return skip(']');
            }
            if (number > STEP_LIMIT) {
                // Only the * behind it has told that it is one to multiply by, but it is the one that is WRONG.
                at = numberAt;
                return false;
            }
            row.step = minus ? -number : number;
            return skip('*') && skip(SIGN_ROUND) && readShift(row) && skip(']');
        }

        private boolean readShift(Row row) {
            boolean minus = sign() == '-';
            if (!minus && sign() != '+') {
                return true;
            }
            at++;
            row.shift = minus ? -value() : value();
            return skipNumber(SHIFT_LIMIT);
        }

        private boolean skipNumber(int limit) {
            if (sign() != SIGN_NUMBER || value() > limit) {
                return false;
            }
            at++;
            return true;
        }

        private boolean skip(int wanted) {
            if (sign() != wanted) {
                return false;
            }
            at++;
            return true;
        }

        private int sign() {
            return at < SIGN_LIMIT ? signs.sign[at] : SIGN_END;
        }

        private int place() {
            return at < SIGN_LIMIT ? signs.place[at] : 0;
        }

        private int value() {
            return at < SIGN_LIMIT ? signs.value[at] : 0;
        }
    }

    /** What must wait for what, and what follows from that for the DISTANCE. */
    private static final class Waits {
        private final Loop loop;
        private final int[] settings;
        int size;
        int[] from = new int[64];
        int[] to = new int[64];
        int[] over = new int[64];
        int[] delay = new int[64];
        /** HEIGHTS for the DISTANCE that was tried last. */
        final int[] height = new int[MAX_ROWS];
        int leastByUnits;
        int leastByCircles;

        Waits(Loop loop, int[] settings) {
            this.loop = loop;
            this.settings = settings;
        }

        void learn() {
            size = 0;
            for (int x = 0; x < loop.size; x++) {
                for (int y = 0; y < loop.size; y++) {
                    addPair(x, y);
                }
            }
            leastByUnits = findLeastByUnits();
            leastByCircles = findLeastByCircles();
        }

        /** The number of the WAIT, or -1. */
        int find(int x, int y, int d) {
            for (int w = 0; w < size; w++) {
                if (from[w] == x && to[w] == y && over[w] == d) {
                    return w;
                }
            }
            return -1;
        }

        /** False: some circle has no room in the DISTANCE, so that there are no HEIGHTS. */
        boolean findHeights(int distance) {
            Arrays.fill(height, 0);
            for (int pass = 0; pass < loop.size; pass++) {
                if (!raiseHeights(distance)) {
                    return true;
                }
            }
            return false;
        }

        private boolean raiseHeights(int distance) {
            boolean raised = false;
            // Backwards, for most WAITS lead to ROWS behind, whose HEIGHTS then stand already.
            for (int w = size - 1; w >= 0; w--) {
                int sum = height[to[w]] + delay[w] - over[w] * distance;
                if (sum > height[from[w]]) {
                    height[from[w]] = sum;
                    raised = true;
                }
            }
            return raised;
        }

        private void addPair(int x, int y) {
            Row first = loop.rows[x];
            Row second = loop.rows[y];
            int time = settings[first.kind];
            boolean uses = loop.source(second.left) == x || loop.source(second.right) == x;
            int useOver = uses ? roundsOfUse(x, y) : -1;
            int placeOver = placesOver(first, second, y > x ? 0 : 1);
            int placeDelay = placesDelay(first, second, time);
            if (uses && useOver == placeOver) {
                add(x, y, useOver, Math.max(time, placeDelay));
                return;
            }
            if (uses) {
                add(x, y, useOver, time);
            }
            if (placeOver >= 0) {
                add(x, y, placeOver, placeDelay);
            }
        }

        private static int placesDelay(Row first, Row second, int time) {
            if (first.kind != KIND_SET) {
                return 0;
            }
            return second.kind == KIND_SET ? 1 : time;
        }

        /** The least number of ROUNDS, from least on, over which both meet in an int, or -1. */
        private int placesOver(Row first, Row second, int least) {
            if (first.array < 0 || first.array != second.array) {
                return -1;
            }
            if (first.kind != KIND_SET && second.kind != KIND_SET) {
                return -1;
            }
            int rounds = settings[SETTING_ROUNDS];
            int best = -1;
            for (int n = 0; n < rounds; n++) {
                int met = roundOfSpot(second, first.spot(n), n + least);
                if (met >= n + least && met < rounds && (best < 0 || met - n < best)) {
                    best = met - n;
                }
            }
            return best;
        }

        /** The ROUND (of several the given one) in which the ROW has that int, or -1. */
        private static int roundOfSpot(Row row, int spot, int wanted) {
            int way = spot - row.shift;
            int step = row.step;
            if (step == 0) {
                return way == 0 ? wanted : -1;
            }
            return way % step == 0 ? way / step : -1;
        }

        private void add(int x, int y, int d, int cycles) {
            if (size >= from.length) {
                from = Arrays.copyOf(from, 2 * size);
                to = Arrays.copyOf(to, 2 * size);
                over = Arrays.copyOf(over, 2 * size);
                delay = Arrays.copyOf(delay, 2 * size);
            }
            from[size] = x;
            to[size] = y;
            over[size] = d;
            delay[size] = cycles;
            size++;
        }

        private int findLeastByUnits() {
            int least = 0;
            for (int group = 0; group < GROUPS; group++) {
                int units = settings[GROUP_SETTING[group]];
                least = Math.max(least, quotient(rowsInGroup(group) + units - 1, units));
            }
            return least;
        }

        private int rowsInGroup(int group) {
            int rows = 0;
            for (int x = 0; x < loop.size; x++) {
                if (isInGroup(loop.rows[x].kind, group)) {
                    rows++;
                }
            }
            return rows;
        }

        private int findLeastByCircles() {
            int low = 1;
            int high = CIRCLE_LIMIT;
            for (int step = 0; step < 32 && low < high; step++) {
                int middle = (low + high) / 2;
                if (findHeights(middle)) {
                    high = middle;
                } else {
                    low = middle + 1;
                }
            }
            return high;
        }
    }

    /** The table of cycles, by placing and taking back. */
    private static final class Table {
        private static final int NONE = -1;
        private final Loop loop;
        private final Waits waits;
        private final int[] settings;
        final int[] cycle = new int[MAX_ROWS];
        /** The cycle that a ROW got last at this DISTANCE. */
        private final int[] latest = new int[MAX_ROWS];
        /** How many ROWS of each group have cycles of each REST. */
        private final int[] used = new int[GROUPS * MAX_DISTANCE];
        private int distance;
        int tries;
        int greatest;

        Table(Loop loop, Waits waits, int[] settings) {
            this.loop = loop;
            this.waits = waits;
            this.settings = settings;
        }

        /** Whether all ROWS have got cycles before the TRIES were gone. */
        boolean fill(int newDistance) {
            if (newDistance < 1 || newDistance > MAX_DISTANCE) {
                return false;
            }
            distance = newDistance;
            Arrays.fill(cycle, NONE);
            Arrays.fill(latest, NONE);
            Arrays.fill(used, 0);
            int limit = TRIES_PER_ROW * loop.size;
            int chosen = highestWithout();
            for (tries = 0; tries < limit && chosen >= 0; tries++) {
                tryRow(chosen);
                chosen = highestWithout();
            }
            if (chosen >= 0) {
                return false;
            }
            moveToZero();
            return true;
        }

        /** Of the ROWS without a cycle the first of the greatest HEIGHT, or -1. */
        private int highestWithout() {
            int best = -1;
            for (int x = 0; x < loop.size; x++) {
                if (cycle[x] == NONE && (best < 0 || waits.height[x] > waits.height[best])) {
                    best = x;
                }
            }
            return best;
        }

        private void tryRow(int x) {
            int earliest = earliestOf(x);
            int chosen = firstWithRoom(x, earliest);
            if (chosen == NONE) {
                chosen = latest[x] != NONE && earliest <= latest[x] ? latest[x] + 1 : earliest;
                makeRoom(x, chosen);
            }
            cycle[x] = chosen;
            latest[x] = chosen;
            changeUse(x, 1);
            dropBroken(x);
        }

        private int earliestOf(int y) {
            int earliest = 0;
            for (int w = 0; w < waits.size; w++) {
                int x = waits.from[w];
                if (waits.to[w] == y && x != y && cycle[x] != NONE) {
                    earliest = Math.max(earliest, boundOf(w));
                }
            }
            return earliest;
        }

        /** The first cycle that a WAIT leaves to the ROW that waits. */
        private int boundOf(int w) {
            return cycle[waits.from[w]] + waits.delay[w] - waits.over[w] * distance;
        }

        private int firstWithRoom(int x, int earliest) {
            for (int t = earliest; t < earliest + distance; t++) {
                if (hasRoom(x, t)) {
                    return t;
                }
            }
            return NONE;
        }

        private boolean hasRoom(int x, int t) {
            for (int group = 0; group < GROUPS; group++) {
                if (isInGroup(loop.rows[x].kind, group) && isFull(group, t)) {
                    return false;
                }
            }
            return true;
        }

        private boolean isFull(int group, int t) {
            return used[group * MAX_DISTANCE + rest(t, distance)] >= settings[GROUP_SETTING[group]];
        }

        private void makeRoom(int x, int t) {
            for (int group = 0; group < GROUPS; group++) {
                if (isInGroup(loop.rows[x].kind, group)) {
                    for (int other = loop.size - 1; other >= 0 && isFull(group, t); other--) {
                        if (isInGroup(loop.rows[other].kind, group) && sharesRest(other, t)) {
                            drop(other);
                        }
                    }
                }
            }
        }

        private boolean sharesRest(int x, int t) {
            return cycle[x] != NONE && rest(cycle[x], distance) == rest(t, distance);
        }

        private void dropBroken(int x) {
            for (int w = 0; w < waits.size; w++) {
                int first = waits.from[w];
                int second = waits.to[w];
                if (first == second || first != x && second != x) {
                    continue;
                }
                if (cycle[first] != NONE && cycle[second] != NONE && cycle[second] < boundOf(w)) {
                    drop(first == x ? second : first);
                }
            }
        }

        private void drop(int x) {
            changeUse(x, -1);
            cycle[x] = NONE;
        }

        private void changeUse(int x, int change) {
            for (int group = 0; group < GROUPS; group++) {
                if (isInGroup(loop.rows[x].kind, group)) {
                    used[group * MAX_DISTANCE + rest(cycle[x], distance)] += change;
                }
            }
        }

        private void moveToZero() {
            int least = cycle[0];
            greatest = cycle[0];
            for (int x = 0; x < loop.size; x++) {
                least = Math.min(least, cycle[x]);
                greatest = Math.max(greatest, cycle[x]);
            }
            for (int x = 0; x < loop.size; x++) {
                cycle[x] -= least;
            }
            greatest -= least;
        }
    }

    /** How long values live, and their places in registers that rotate. */
    private static final class Spans {
        private final Loop loop;
        private final Table table;
        private final int[] settings;
        /** All three -1 for a ROW without a SPAN. */
        final int[] begin = new int[MAX_ROWS];
        final int[] end = new int[MAX_ROWS];
        final int[] offset = new int[MAX_ROWS];
        private final int[] order = new int[MAX_ROWS];
        private final int[] alive = new int[MAX_DISTANCE];
        private final int[] taken = new int[SIZE_LIMIT];
        private int distance;
        private int spans;
        int need;
        int size;

        Spans(Loop loop, Table table, int[] settings) {
            this.loop = loop;
            this.table = table;
            this.settings = settings;
        }

        /** Whether NEED and SIZE keep to their limits. */
        boolean fit(int newDistance) {
            if (newDistance < 1 || newDistance > MAX_DISTANCE) {
                return false;
            }
            distance = newDistance;
            findSpans();
            orderSpans();
            need = findNeed();
            if (need > NEED_LIMIT) {
                return false;
            }
            for (size = Math.max(need, 1); size <= SIZE_LIMIT; size++) {
                if (colourAll()) {
                    return true;
                }
            }
            return false;
        }

        private void findSpans() {
            Arrays.fill(begin, -1);
            Arrays.fill(end, -1);
            Arrays.fill(offset, -1);
            for (int y = 0; y < loop.size; y++) {
                stretch(loop.source(loop.rows[y].left), y);
                stretch(loop.source(loop.rows[y].right), y);
            }
        }

        private void stretch(int x, int user) {
            if (x >= 0) {
                begin[x] = table.cycle[x] + settings[loop.rows[x].kind];
                end[x] = Math.max(end[x], table.cycle[user] + roundsOfUse(x, user) * distance);
            }
        }

        private void orderSpans() {
            spans = 0;
            for (int x = 0; x < loop.size; x++) {
                if (begin[x] >= 0) {
                    int at = spans;
                    for (; at > 0 && begin[order[at - 1]] > begin[x]; at--) {
                        order[at] = order[at - 1];
                    }
                    order[at] = x;
                    spans++;
                }
            }
        }

        private int findNeed() {
            Arrays.fill(alive, 0);
            for (int k = 0; k < spans; k++) {
                int x = order[k];
                for (int t = begin[x]; t <= end[x]; t++) {
                    alive[rest(t, distance)]++;
                }
            }
            int most = 0;
            for (int slot = 0; slot < distance; slot++) {
                most = Math.max(most, alive[slot]);
            }
            return most;
        }

        private boolean colourAll() {
            for (int k = 0; k < spans; k++) {
                int free = leastFree(k);
                if (free < 0) {
                    return false;
                }
                offset[order[k]] = free;
            }
            return true;
        }

        /**
         * The least OFFSET that the SPANS before leave, or -1. A SPAN never meets itself in another ROUND:
         * it would be alive more than SIZE times in its first cycle, and SIZE is not below NEED.
         */
        private int leastFree(int k) {
            Arrays.fill(taken, 0);
            for (int before = 0; before < k; before++) {
                markMeetings(order[before], order[k]);
            }
            for (int free = 0; free < size; free++) {
                if (taken[free] == 0) {
                    return free;
                }
            }
            return -1;
        }

        /** Over each number of ROUNDS that brings both into one cycle, one OFFSET brings them into one place. */
        private void markMeetings(int x, int other) {
            int least = -quotient(end[other] - begin[x], distance);
            int most = quotient(end[x] - begin[other], distance);
            for (int rounds = least; rounds <= most; rounds++) {
                taken[rest(offset[x] + rounds, size)] = 1;
            }
        }
    }

    /** Runs the LOOP, as it is written or as it was laid, and keeps what is there at last. */
    private static final class Runner {
        private final Loop loop;
        private final Table table;
        private final Spans spans;
        private final int[] settings;
        private final int[] begins;
        final int[] cells = new int[ARRAYS * ARRAY_INTS];
        final int[] registers = new int[REGISTERS];
        /** What each ROW gave in each ROUND of a laid run. */
        private final int[] given = new int[MAX_ROWS * MAX_ROUNDS];
        private final int[] places = new int[SIZE_LIMIT];
        private int distance;

        Runner(Loop loop, Table table, Spans spans, int[] settings, int[] begins) {
            this.loop = loop;
            this.table = table;
            this.spans = spans;
            this.settings = settings;
            this.begins = begins;
        }

        int runWritten() {
            fillCells();
            System.arraycopy(begins, 0, registers, 0, REGISTERS);
            int rounds = settings[SETTING_ROUNDS];
            for (int round = 0; round < rounds; round++) {
                for (int x = 0; x < loop.size; x++) {
                    doWritten(loop.rows[x], round);
                }
            }
            return rounds * loop.size;
        }

        int runLaid(int newDistance) {
            distance = newDistance;
            fillCells();
            int cycles = lastCycle();
            for (int t = 0; t <= cycles; t++) {
                bringValues(t);
                beginRows(t);
                bringSets(t);
            }
            keepLast();
            return cycles;
        }

        private void fillCells() {
            for (int j = 0; j < ARRAY_INTS; j++) {
                cells[j] = j * 7 ^ 21;
                cells[ARRAY_INTS + j] = j * j + 3;
                cells[2 * ARRAY_INTS + j] = 5 - j;
                cells[3 * ARRAY_INTS + j] = 0;
            }
        }

        private int cellOf(Row row, int round) {
            return row.array * ARRAY_INTS + ARRAY_MIDDLE + row.spot(round);
        }

        private void doWritten(Row row, int round) {
            if (row.kind == KIND_SET) {
                cells[cellOf(row, round)] = writtenValue(row.left, round);
            } else if (row.kind == KIND_TAKE) {
                registers[row.target] = cells[cellOf(row, round)];
            } else {
                int left = writtenValue(row.left, round);
                registers[row.target] = row.reckon(left, writtenValue(row.right, round));
            }
        }

        private int writtenValue(Operand operand, int round) {
            if (operand.sort == SIGN_REGISTER) {
                return registers[operand.value];
            }
            return operand.sort == SIGN_ROUND ? round : operand.value;
        }

        private int lastCycle() {
            int last = 0;
            for (int x = 0; x < loop.size; x++) {
                last = Math.max(last, table.cycle[x] + settings[loop.rows[x].kind]);
            }
            return last + (settings[SETTING_ROUNDS] - 1) * distance;
        }

        /** The ROUND that brings what is at a cycle in ROUND 0 to cycle t, or -1. */
        private int roundAt(int t, int first) {
            int way = t - first;
            int round = way < 0 ? -1 : quotient(way, distance);
            return round < settings[SETTING_ROUNDS] && round * distance == way ? round : -1;
        }

        private void bringValues(int t) {
            for (int x = 0; x < loop.size; x++) {
                if (spans.begin[x] >= 0) {
                    int round = roundAt(t, spans.begin[x]);
                    if (round >= 0) {
                        places[rest(spans.offset[x] - round, spans.size)] = given[x * MAX_ROUNDS + round];
                    }
                }
            }
        }

        private void beginRows(int t) {
            for (int x = 0; x < loop.size; x++) {
                int round = roundAt(t, table.cycle[x]);
                if (round >= 0) {
                    given[x * MAX_ROUNDS + round] = giveLaid(x, round);
                }
            }
        }

        private int giveLaid(int x, int round) {
            Row row = loop.rows[x];
            if (row.kind == KIND_TAKE) {
                return cells[cellOf(row, round)];
            }
            int left = laidValue(row.left, x, round);
            return row.kind == KIND_SET ? left : row.reckon(left, laidValue(row.right, x, round));
        }

        private int laidValue(Operand operand, int user, int round) {
            if (operand.sort != SIGN_REGISTER) {
                return operand.sort == SIGN_ROUND ? round : operand.value;
            }
            int source = loop.source(operand);
            int setIn = round - roundsOfUse(source, user);
            if (source < 0 || setIn < 0) {
                return begins[operand.value];
            }
            return places[rest(spans.offset[source] - setIn, spans.size)];
        }

        /** By ROWS alone: WAITS keep two sets of one int a cycle apart, so the order of ROUNDS can't be seen. */
        private void bringSets(int t) {
            for (int x = 0; x < loop.size; x++) {
                Row row = loop.rows[x];
                if (row.kind == KIND_SET) {
                    int round = roundAt(t, table.cycle[x] + settings[KIND_SET] - 1);
                    if (round >= 0) {
                        cells[cellOf(row, round)] = given[x * MAX_ROUNDS + round];
                    }
                }
            }
        }

        private void keepLast() {
            int lastRound = settings[SETTING_ROUNDS] - 1;
            for (int r = 0; r < REGISTERS; r++) {
                int source = loop.setter[r];
                registers[r] = source < 0 ? begins[r] : given[source * MAX_ROUNDS + lastRound];
            }
        }
    }
}
