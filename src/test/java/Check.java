import java.util.NoSuchElementException;

/** What the tests share: answers compared, exceptions named, texts fed. */
final class Check {
    interface Call {
        int answer();
    }

    /** Far above what any test needs, also on a slow machine. */
    private static final int SECONDS = 300;

    private static int checks;
    private static int wrong;

    static {
        Thread watch = new Thread(Check::endIfACallDoesNot);
        watch.setDaemon(true);
        watch.start();
    }

    private Check() {
    }

    private static void endIfACallDoesNot() {
        try {
            Thread.sleep(1000L * SECONDS);
        } catch (InterruptedException e) {
            return;
        }
        System.out.println("a call has not ended");
        Runtime.getRuntime().halt(1);
    }

    /** The answer as a text, or the name of what was thrown. */
    static String tell(Call call) {
        try {
            return Integer.toString(call.answer());
        } catch (IllegalStateException | IllegalArgumentException | IndexOutOfBoundsException
                | NoSuchElementException e) {
            return e.getClass().getSimpleName();
        }
    }

    static void same(String what, Object got, Object due) {
        checks++;
        if (!due.equals(got)) {
            wrong++;
            if (wrong <= 40) {
                System.out.println(what + " answered " + got + ", due is " + due);
            }
        }
    }

    static void due(String what, Call call, Object due) {
        same(what, tell(call), due.toString());
    }

    static void state(String what, Call call) {
        due(what, call, "IllegalStateException");
    }

    static void argument(String what, Call call) {
        due(what, call, "IllegalArgumentException");
    }

    static void bounds(String what, Call call) {
        due(what, call, "IndexOutOfBoundsException");
    }

    static void none(String what, Call call) {
        due(what, call, "NoSuchElementException");
    }

    static void ends() {
        System.out.println(checks + " answers looked at, " + wrong + " not as due");
        if (wrong != 0 || checks == 0) {
            System.exit(1);
        }
    }

    /** Brings a text of characters 0 to 255 to an empty tape. */
    static void feed(LoopForge forge, String text) {
        // What does not fill a feed comes first: behind the others it could be too much for the tape.
        int at = text.length() % 20;
        if (at > 0) {
            feed20(forge, text.substring(0, at) + "xxxxxxxxxxxxxxxxxxx");
            forge.end(at);
        }
        for (; at < text.length(); at += 20) {
            feed20(forge, text.substring(at));
        }
    }

    private static void feed20(LoopForge forge, String bytes) {
        int[] words = new int[5];
        for (int k = 0; k < 20; k++) {
            words[k / 4] = words[k / 4] << 8 | bytes.charAt(k);
        }
        forge.feed(words[0], words[1], words[2], words[3], words[4]);
    }

    static int read(LoopForge forge, String text) {
        feed(forge, text);
        return forge.text();
    }

    /** An object with that LOOP, and settings by pairs: what, and to which value. */
    static LoopForge of(String text, int... settings) {
        LoopForge forge = new LoopForge();
        same("text of " + text, read(forge, text), -1);
        for (int k = 0; k < settings.length; k += 2) {
            forge.set(settings[k], settings[k + 1]);
        }
        return forge;
    }
}
