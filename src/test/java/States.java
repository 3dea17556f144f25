import java.util.List;
import java.util.function.Consumer;
import java.util.function.Function;

/**
 * Objects in each state that the document tells apart, and what can be seen of one: enough of all that it has, but
 * no more than the 512 calls that an object is used for.
 */
enum States {
    NEW, FED, WRONG, SET_TWICE, READ, UNLAID, LAID, RUN_AS_WRITTEN, RUN_AS_LAID,
    /** Laid and run; then a WRONG text, set() or begin() has taken away what it takes. */
    LOOP_TAKEN, LAYING_TAKEN, RUN_TAKEN;

    interface Call {
        int answer(LoopForge forge);
    }

    /** ROWS 2 and 3 use one another; what ROW 0 sets is used by none. */
    static final String LOOP = "r7 = i + r3 r0 = a[1*i] r1 = r0 * r2 r2 = r1 + r3 d[1*i] = r2";
    /** What stands on the TAPE of all states but NEW. */
    static final String WAITING = "r5 = r6 + 7 ; waits on the tape";

    static final States[] WITHOUT_LOOP = {NEW, FED, WRONG, SET_TWICE, LOOP_TAKEN};
    static final States[] WITHOUT_LAYING = {
        NEW, FED, WRONG, SET_TWICE, READ, UNLAID, RUN_AS_WRITTEN, LOOP_TAKEN, LAYING_TAKEN};
    static final States[] WITHOUT_RUN = {
        NEW, FED, WRONG, SET_TWICE, READ, UNLAID, LAID, LOOP_TAKEN, LAYING_TAKEN, RUN_TAKEN};
    static final States[] WITH_LOOP = {READ, UNLAID, LAID, RUN_AS_WRITTEN, RUN_AS_LAID, LAYING_TAKEN, RUN_TAKEN};
    static final States[] WITH_LAYING = {LAID, RUN_AS_LAID, RUN_TAKEN};
    static final States[] WITH_RUN = {RUN_AS_WRITTEN, RUN_AS_LAID};

    LoopForge make() {
        LoopForge forge = new LoopForge();
        if (this == NEW) {
            return forge;
        }
        forge.set(2, 5);
        forge.set(8, 10);
        forge.begin(2, -3);
        forge.begin(3, 17);
        forge.begin(6, 9);
        bring(forge);
        Check.feed(forge, WAITING);
        return forge;
    }

    private void bring(LoopForge forge) {
        if (this == WRONG) {
            Check.read(forge, LOOP + " ?");
        } else if (this == SET_TWICE) {
            Check.read(forge, LOOP + " r1 = 1 + 1");
        } else if (this == UNLAID) {
            forge.set(1, 20);
            Check.read(forge, circle(11));
        } else if (this != FED) {
            Check.read(forge, LOOP);
        }
        boolean taken = this == LOOP_TAKEN || this == LAYING_TAKEN || this == RUN_TAKEN;
        if (this == UNLAID || this == LAID || this == RUN_AS_LAID || taken) {
            forge.lay();
        }
        if (this == RUN_AS_WRITTEN || this == RUN_AS_LAID || taken) {
            forge.run(this != RUN_AS_WRITTEN);
        }
        if (taken) {
            take(forge);
        }
    }

    private void take(LoopForge forge) {
        if (this == LOOP_TAKEN) {
            Check.read(forge, LOOP + " r1");
        } else if (this == LAYING_TAKEN) {
            forge.set(2, 5);
        } else {
            forge.begin(2, -3);
        }
    }

    /** Each ROW multiplies what the one before gives; the first uses the last. */
    static String circle(int rows) {
        StringBuilder text = new StringBuilder("r0 = r" + (rows - 1) + " * 3 ");
        for (int x = 1; x < rows; x++) {
            text.append("r" + x + " = r" + (x - 1) + " * 3 ");
        }
        return text.toString();
    }

    /** The call is refused in each of the states, and leaves behind what an object has that never saw it. */
    static void refused(String what, Call call, String exception, States... states) {
        for (States state : states) {
            LoopForge asked = state.make();
            String got = Check.tell(() -> call.answer(asked));
            Check.same(what + ", " + state, got, exception);
            // What was not refused can leave behind what no other call ever ends with.
            if (got.equals(exception)) {
                changesNothing("refused " + what + ", " + state, state, forge -> Check.tell(() -> call.answer(forge)));
            }
        }
    }

    /** Each look has objects of its own: looks have refused calls, too, that would spoil both for the next look. */
    private static void changesNothing(String what, States state, Consumer<LoopForge> call) {
        List<Function<LoopForge, String>> looks = List.of(
                States::allSeen, States::nextSeen, States::layingSeen, States::runSeen);
        for (Function<LoopForge, String> look : looks) {
            LoopForge forge = state.make();
            call.accept(forge);
            alike("behind " + what, look.apply(forge), look.apply(state.make()));
        }
    }

    static void refusedArgument(String what, Call call, States... states) {
        refused(what, call, "IllegalArgumentException", states);
    }

    static void refusedBounds(String what, Call call, States... states) {
        refused(what, call, "IndexOutOfBoundsException", states);
    }

    static void refusedState(String what, Call call, States... states) {
        refused(what, call, "IllegalStateException", states);
    }

    static void refusedNone(String what, Call call, States... states) {
        refused(what, call, "NoSuchElementException", states);
    }

    /** The call is answered in each of the states, and changes nothing at all. */
    static void onlyTells(String what, Call call, States... states) {
        for (States state : states) {
            changesNothing(what + ", " + state, state, call::answer);
        }
    }

    /** The call is answered in each state, and leaves LOOP, REASON, LAYING and RUN as they were. */
    static void leavesPlan(String what, Call call) {
        for (States state : values()) {
            LoopForge forge = state.make();
            String before = planSeen(forge);
            call.answer(forge);
            alike("behind " + what + ", " + state, planSeen(forge), before);
        }
    }

    static void alike(String what, String got, String due) {
        int same = 0;
        while (same < got.length() && same < due.length() && got.charAt(same) == due.charAt(same)) {
            same++;
        }
        Check.same(what, around(got, same), around(due, same));
    }

    private static String around(String text, int at) {
        return text.substring(Math.max(0, at - 40), Math.min(text.length(), at + 40));
    }

    /** All that can be seen without changing it, but for the TAPE. */
    static String planSeen(LoopForge forge) {
        return loopSeen(forge) + layingSeen(forge) + runSeen(forge);
    }

    static String loopSeen(LoopForge forge) {
        StringBuilder all = new StringBuilder();
        for (int k = 0; k <= 5; k++) {
            int what = k;
            if (what != 2) {
                add(all, "count " + what, () -> forge.count(what));
            }
        }
        int rows = Math.min(5, forge.count(0));
        for (int k = 0; k < 6 * rows; k++) {
            int x = k / 6;
            int y = k % 3 == 0 ? x : k % 3 == 1 ? x - 1 : x + 1;
            int d = k / 3 % 2;
            add(all, "delay " + x + " " + y + " " + d, () -> forge.delay(x, y, d));
        }
        return all.toString();
    }

    static String layingSeen(LoopForge forge) {
        StringBuilder all = new StringBuilder();
        for (int k = 6; k <= 11; k++) {
            int what = k;
            add(all, "count " + what, () -> forge.count(what));
        }
        int rows = Math.min(5, 1 + forge.count(0));
        for (int k = 0; k < 5 * rows; k++) {
            int x = k / 5;
            int what = k % 5;
            add(all, "row " + x + " " + what, () -> forge.row(x, what));
        }
        return all.toString();
    }

    static String runSeen(LoopForge forge) {
        StringBuilder all = new StringBuilder();
        for (int k = 0; k < 9; k++) {
            int r = k == 8 ? 31 : k;
            add(all, "register " + r, () -> forge.register(r));
        }
        for (int k = 0; k < 20; k++) {
            int a = k % 4;
            int j = k < 4 ? 0 : k < 8 ? 1023 : 511 + k / 4;
            add(all, "cell " + a + " " + j, () -> forge.cell(a, j));
        }
        return all.toString();
    }

    /** All that can be seen, also by calls that change it: the object is of no use any more behind that. */
    static String allSeen(LoopForge forge) {
        StringBuilder all = new StringBuilder(planSeen(forge));
        add(all, "bytes", () -> forge.count(2));
        add(all, "run as laid", () -> forge.run(true));
        all.append(runSeen(forge));
        add(all, "lay", forge::lay);
        all.append(layingSeen(forge));
        add(all, "run as written", () -> forge.run(false));
        all.append(runSeen(forge));
        for (int k = 0; k < 32; k++) {
            int r = k;
            add(all, "begin " + r, () -> forge.begin(r, r));
        }
        for (int k = 0; k < 9; k++) {
            int what = k;
            add(all, "set " + what, () -> forge.set(what, 2));
        }
        add(all, "text", forge::text);
        all.append(loopSeen(forge));
        add(all, "run of it", () -> forge.run(false));
        all.append(runSeen(forge));
        return all.toString();
    }

    /** What comes of it by calls that are answered. */
    private static String nextSeen(LoopForge forge) {
        StringBuilder all = new StringBuilder();
        if (forge.count(0) == 0) {
            add(all, "text", forge::text);
        }
        add(all, "lay", forge::lay);
        all.append(layingSeen(forge));
        add(all, "run as laid", () -> forge.run(true));
        all.append(runSeen(forge));
        return all.toString();
    }

    private static void add(StringBuilder all, String what, Check.Call call) {
        all.append(what).append(": ").append(Check.tell(call)).append('\n');
    }
}
