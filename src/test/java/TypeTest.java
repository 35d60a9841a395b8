/** Promise 2: what goes to the tape, and what it refuses. */
public final class TypeTest {
    private static final Due CHECK = new Due();
    private static final long BLANKS = 0x2020202020202020L;

    public static void main(String[] args) {
        order();
        counts();
        characters();
        fullTape();
        CHECK.end();
    }

    private static void order() {
        CHECK.sentence("The n (1 .. 8) lowest bytes of word, the highest first, go to the TAPE: true");
        KernelText x = new KernelText();
        CHECK.due("exit; in one call", x.type(0x657869743bL, 5), true);
        CHECK.due("one word", Due.compile(x, ""), 1);
        CHECK.due("bytes above n are passed over", x.type(0xff00_0073_796e_633bL, 5), true);
        CHECK.due("one word", Due.compile(x, ""), 1);
        CHECK.due("sync", Due.spelled(x, 0), "sync;");
        for (char c : "set r1,-5;".toCharArray()) {
            CHECK.due("type " + c, x.type(c, 1), true);
        }
        CHECK.due("typed one by one", Due.compile(x, ""), 1);
        CHECK.due("set", Due.spelled(x, 0), "set r1,-5;");
        CHECK.due("eight at once", x.type(0x74696420_20_72_39_3bL, 8), true);
        CHECK.due("one word", Due.compile(x, ""), 1);
        CHECK.due("tid", Due.spelled(x, 0), "tid r9;");
    }

    private static void counts() {
        CHECK.sentence("false, changing nothing, for another n");
        for (int n : new int[] {0, -1, 9, 10, 16, 64, -8, Integer.MIN_VALUE, Integer.MAX_VALUE}) {
            KernelText x = new KernelText();
            x.type(BLANKS, 3);
            CHECK.due("n " + n, x.type(BLANKS, n), false);
            CHECK.due("nothing was typed by n " + n, Due.taped(x), 3);
        }
        for (int n = 1; n <= 8; n++) {
            KernelText x = new KernelText();
            CHECK.due("n " + n, x.type(BLANKS, n), true);
            CHECK.due("so many were typed", Due.taped(x), n);
        }
    }

    private static void characters() {
        CHECK.sentence("false, changing nothing, for .. a byte that is not 32 .. 126");
        for (int c = 0; c < 256; c++) {
            boolean good = c >= 32 && c <= 126;
            for (int at = 0; at < 8; at++) {
                long word = BLANKS & ~(255L << 8 * at) | (long) c << 8 * at;
                KernelText x = new KernelText();
                CHECK.due("byte " + c + " as the lowest but " + at, x.type(word, 8), good);
                if (!good) {
                    CHECK.due("nothing was typed", Due.taped(x), 0);
                }
                CHECK.due("just up to byte " + c + " as the lowest but " + at, x.type(word, at + 1), good);
            }
            CHECK.due("a byte above n does not matter " + c, new KernelText().type((long) c << 8 | ' ', 1), true);
        }
    }

    private static KernelText holding(int characters) {
        KernelText x = new KernelText();
        Due.type(x, " ".repeat(characters));
        return x;
    }

    private static void fullTape() {
        CHECK.sentence("false, changing nothing, .. if it would have more than 700");
        for (int n = 1; n <= 8; n++) {
            CHECK.due("700 with the last " + n, holding(700 - n).type(BLANKS, n), true);
            CHECK.due("701 with the last " + n, holding(701 - n).type(BLANKS, n), false);
            CHECK.due("700 and " + n, holding(700).type(BLANKS, n), false);
        }
        KernelText x = holding(696);
        CHECK.due("696 and 5", x.type(0x657869743bL, 5), false);
        CHECK.due("nothing of the five was typed", Due.taped(x), 696);
        x = holding(695);
        CHECK.due("695 and 6", x.type(0x20657869743bL, 6), false);
        CHECK.due("five have room still", x.type(0x657869743bL, 5), true);
        CHECK.due("and are the text", Due.compile(x, ""), 1);
        CHECK.due("the tape is empty again", x.type(0x657869743bL, 5), true);
        CHECK.due("a word", Due.compile(x, ""), 1);
        x = holding(699);
        x.type('@', 1);
        CHECK.due("a full tape's fault", Due.compile(x, ""), -1);
        CHECK.due("its end", x.fault(1), 700);
    }
}
