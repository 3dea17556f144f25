/** Promise 2: feed. */
public final class Promise02FeedTest {
    public static void main(String[] args) {
        eachByteHasItsPlace();
        allBytesComeAsTheyAre();
        tellsHowManyThereAre();
        goesOnBehindWhatEndKept();
        takes4096();
        refusesAbove4096();
        theLastByteCounts();
        refusedChangesNothing();
        leavesTheRest();
        Check.ends();
    }

    /** Blanks, but for one byte. */
    private static void feedWith(LoopForge forge, int b, int place) {
        int[] words = {0x20202020, 0x20202020, 0x20202020, 0x20202020, 0x20202020};
        int shift = 24 - 8 * (place % 4);
        words[place / 4] = words[place / 4] & ~(255 << shift) | b << shift;
        forge.feed(words[0], words[1], words[2], words[3], words[4]);
    }

    private static void eachByteHasItsPlace() {
        for (int k = 0; k < 20; k++) {
            int place = k;
            for (int b : new int[] {'?', 0, 127, 128, 255}) {
                LoopForge forge = new LoopForge();
                feedWith(forge, b, place);
                Check.due("text with " + b + " at " + place, forge::text, place);
            }
        }
    }

    private static void allBytesComeAsTheyAre() {
        LoopForge forge = new LoopForge();
        forge.feed('r' << 24 | '0' << 16 | '=' << 8 | 'i', '+' << 24 | '1' << 16 | '0' << 8 | '0',
                'r' << 24 | '1' << 16 | '=' << 8 | 'r', '0' << 24 | '*' << 16 | 'i' << 8 | ';', 0xFFFFFFFF);
        Check.due("text", forge::text, -1);
        Check.due("rows", () -> forge.count(0), 2);
        forge.run(false);
        Check.due("r0", () -> forge.register(0), 115);
        Check.due("r1", () -> forge.register(1), 115 * 15);
    }

    private static void tellsHowManyThereAre() {
        LoopForge forge = new LoopForge();
        for (int k = 1; k <= 204; k++) {
            int due = 20 * k;
            Check.due("feed", () -> forge.feed(-1, 0, 1, Integer.MIN_VALUE, Integer.MAX_VALUE), due);
        }
        Check.due("bytes", () -> forge.count(2), 4080);
    }

    private static void goesOnBehindWhatEndKept() {
        for (int keep : new int[] {0, 1, 3, 19, 20}) {
            LoopForge forge = new LoopForge();
            forge.feed(0x20202020, 0x20202020, 0x20202020, 0x20202020, 0x20202020);
            forge.end(keep);
            Check.due("feed behind " + keep, () -> forge.feed(0x3F202020, 0, 0, 0, 0), keep + 20);
            Check.due("text", forge::text, keep);
            Check.due("feed behind a text", () -> forge.feed(0x2020203F, 0, 0, 0, 0), 20);
            Check.due("text", forge::text, 3);
        }
    }

    /** A TAPE with so many blanks. */
    private static LoopForge blanks(int many) {
        LoopForge forge = new LoopForge();
        for (int k = 0; k < 204; k++) {
            forge.feed(0x20202020, 0x20202020, 0x20202020, 0x20202020, 0x20202020);
        }
        if (many > 4080) {
            forge.end(4076);
            forge.feed(0x20202020, 0x20202020, 0x20202020, 0x20202020, 0x20202020);
        }
        forge.end(many);
        return forge;
    }

    private static void takes4096() {
        LoopForge forge = blanks(4076);
        Check.due("feed to 4096", () -> forge.feed(0, 0, 0, 0, 0), 4096);
        LoopForge before = blanks(4075);
        Check.due("feed to 4095", () -> before.feed(0, 0, 0, 0, 0), 4095);
        Check.bounds("feed to 4115", () -> before.feed(0, 0, 0, 0, 0));
    }

    private static void refusesAbove4096() {
        for (int many = 4077; many <= 4096; many++) {
            LoopForge forge = blanks(many);
            int due = many;
            Check.bounds("feed behind " + many, () -> forge.feed(0x3F3F3F3F, 0, 0, 0, 0));
            Check.due("bytes behind it", () -> forge.count(2), due);
            // Not one of the refused bytes has come: the text is blank up to its end.
            Check.due("text behind it", forge::text, due);
            Check.due("feed behind the text", () -> forge.feed(0, 0, 0, 0, 0), 20);
        }
    }

    private static void theLastByteCounts() {
        LoopForge wrong = blanks(4076);
        feedWith(wrong, '?', 19);
        Check.due("a wrong byte 4095", wrong::text, 4095);
        LoopForge right = blanks(4076);
        right.feed(0x20202020, 0x20202020, 0x20202020, 0x2072303D, 0x692B3137);
        Check.due("a text of 4096", right::text, -1);
        right.run(false);
        Check.due("its last number", () -> right.register(0), 32);
        LoopForge early = blanks(4076);
        early.feed(0x20202020, 0x20202020, 0x20202020, 0x20202072, 0x303D692B);
        Check.due("too early an end of 4096", early::text, 4096);
        Check.due("nothing, 4096 long", blanks(4096)::text, 4096);
    }

    private static void refusedChangesNothing() {
        for (States state : States.values()) {
            LoopForge forge = state.make();
            fill(forge);
            Check.bounds("feed, " + state, () -> forge.feed(0x72303D69, 0x2B315E5E, 3, 4, 5));
            LoopForge twin = state.make();
            fill(twin);
            forge.end(States.WAITING.length());
            twin.end(States.WAITING.length());
            States.alike("behind refused feed, " + state, States.allSeen(forge), States.allSeen(twin));
        }
    }

    private static void fill(LoopForge forge) {
        for (int k = (4096 - forge.count(2)) / 20; k > 0; k--) {
            forge.feed(0x20202020, 0x20202020, 0x20202020, 0x20202020, 0x20202020);
        }
    }

    private static void leavesTheRest() {
        States.leavesPlan("feed", forge -> forge.feed(0x72303D69, 0x2B315E5E, 3, 4, 5));
    }
}
