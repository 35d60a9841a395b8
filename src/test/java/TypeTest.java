/** Promise 2: what goes to the tape, and what it refuses. */
public final class TypeTest {
    private static final Due CHECK = new Due();

    public static void main(String[] args) {
        order();
        counts();
        characters();
        fullTape();
        CHECK.end();
    }

    private static void order() {
        KernelText x = new KernelText();
        CHECK.due("exit; in one call", x.type(0x657869743bL, 5), true);
        CHECK.due("one word", Due.compile(x, ""), 1);
        CHECK.due("bytes above n are passed over", x.type(0xff00_0073_796e_633bL, 5), true);
        CHECK.due("one word", Due.compile(x, ""), 1);
        CHECK.due("sync", Due.spelled(x, 0), "sync;");
        for (char c : "set r1,-5;".toCharArray()) {
            CHECK.due("type " + c, x.type(c, 1), true);
        }
        CHECK.due("typed one by one", Due.compile(x, ""), 1);
        CHECK.due("set", Due.spelled(x, 0), "set r1,-5;");
    }

    private static void counts() {
        KernelText x = new KernelText();
        for (int n : new int[] {0, -1, 9, 16, 64, Integer.MIN_VALUE, Integer.MAX_VALUE}) {
            CHECK.due("n " + n, x.type(0x3b3b3b3b3b3b3b3bL, n), false);
        }
        CHECK.due("nothing was typed", Due.compile(x, "exit;"), 1);
        for (int n = 1; n <= 8; n++) {
            CHECK.due("n " + n, x.type(0x2020202020202020L, n), true);
            Due.compile(x, "!");
            CHECK.due("so many were typed: " + n, x.fault(1), n);
        }
    }

    private static void characters() {
        for (int c = 0; c < 256; c++) {
            boolean good = c >= 32 && c <= 126;
            KernelText x = new KernelText();
            CHECK.due("alone " + c, x.type(c, 1), good);
            CHECK.due("highest of eight " + c, x.type((long) c << 56 | 0x20202020202020L, 8), good);
            CHECK.due("in the midst " + c, x.type((long) c << 8 | 0x200020L, 3), good);
            CHECK.due("a byte above n does not matter " + c, x.type((long) c << 8 | 0x20L, 1), true);
            if (!good) {
                Due.compile(x, "!");
                CHECK.due("a refused call types nothing " + c, x.fault(1), 1);
            }
        }
    }

    private static void fullTape() {
        KernelText x = new KernelText();
        for (int i = 0; i < 87; i++) {
            CHECK.due("filling", x.type(0x2020202020202020L, 8), true);
        }
        CHECK.due("696 and 5", x.type(0x202020203bL, 5), false);
        CHECK.due("696 and 8", x.type(0x202020202020203bL, 8), false);
        CHECK.due("696 and 4", x.type(0x2020203bL, 4), true);
        CHECK.due("700 and 1", x.type(0x20L, 1), false);
        CHECK.due("700 characters", Due.compile(x, ""), 0);
        CHECK.due("empty again", x.type(0x6578697420203bL, 7), true);
        CHECK.due("a word", Due.compile(x, ""), 1);
        for (int i = 0; i < 700; i++) {
            x.type(' ', 1);
        }
        CHECK.due("701 single ones", x.type(' ', 1), false);
        Due.compile(x, "");
        for (int i = 0; i < 699; i++) {
            x.type(' ', 1);
        }
        x.type('@', 1);
        Due.compile(x, "");
        CHECK.due("the end of a full tape", x.fault(1), 700);
    }
}
