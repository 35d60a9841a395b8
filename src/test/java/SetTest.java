/** Promise 5: set. */
public final class SetTest {
    private static final Due CHECK = new Due();

    public static void main(String[] args) {
        becomes();
        oneMore();
        another();
        the65th();
        namesStay();
        CHECK.end();
    }

    private static void becomes() {
        CHECK.sentence("WORD k becomes w: true");
        KernelText x = Due.made("sync;exit;sync;");
        for (long w : new long[] {0, 1, -1, Long.MIN_VALUE, Long.MAX_VALUE, 255, 1L << 24, 0x123456789abcdef0L}) {
            CHECK.due("set 1 " + w, x.set(1, w), true);
            CHECK.due("word 1", Due.wordOf(x, 1), Long.toString(w));
        }
        CHECK.due("word 0 stays", Due.wordOf(x, 0), "1");
        CHECK.due("word 2 stays", Due.wordOf(x, 2), "1");
        CHECK.due("no more of them", x.total(0), 3);
        x.set(0, Due.bits(40, 0, 0, 0, 8, 2));
        CHECK.due("its text", Due.spelled(x, 0), "@p0 go 2;");
        CHECK.due("its way", x.way(0, 1), 1);
        CHECK.due("what it reads", x.live(0, 16), true);
        x.set(0, 0);
        CHECK.due("its text", Due.spelled(x, 0), "exit;");
        CHECK.due("its way", x.way(0, 0), -1);
        CHECK.due("what it reads", x.live(0, 16), false);
    }

    private static void oneMore() {
        CHECK.sentence("(k as many as there are: one more)");
        KernelText x = new KernelText();
        for (int k = 0; k < 64; k++) {
            CHECK.due("one behind the next of " + k, x.set(k + 1, 7), false);
            CHECK.due("the next of " + k, x.set(k, 1000 + k), true);
            CHECK.due("one more", x.total(0), k + 1);
        }
        for (int k = 0; k < 64; k++) {
            CHECK.due("word " + k, Due.wordOf(x, k), Long.toString(1000 + k));
        }
        KernelText y = Due.made("sync;sync;");
        CHECK.due("the last", y.set(1, 0), true);
        CHECK.due("still two", y.total(0), 2);
        CHECK.due("the next", y.set(2, 0), true);
        CHECK.due("three", y.total(0), 3);
        Due.compile(y, "sync;");
        CHECK.due("behind a shorter kernel's next", y.set(2, 0), false);
        CHECK.due("a shorter kernel's next", y.set(1, 0), true);
    }

    private static void another() {
        CHECK.sentence("false, changing nothing, for another k");
        for (int many : new int[] {0, 1, 5, 62}) {
            for (int k : new int[] {-1, -64, Integer.MIN_VALUE, many + 1, 64, 65, 128, Integer.MAX_VALUE}) {
                KernelText x = Due.made("sync;".repeat(many));
                String before = Due.stateOf(x);
                CHECK.due("set " + k + " of " + many, x.set(k, 0), false);
                CHECK.due("nothing changes", Due.stateOf(x), before);
                CHECK.due("set " + many + " of " + many, x.set(many, 0), true);
            }
        }
    }

    private static void the65th() {
        CHECK.sentence("false, changing nothing, .. or the 65th");
        KernelText x = Due.made("sync;".repeat(63));
        CHECK.due("the 64th", x.set(63, 2), true);
        String before = Due.stateOf(x);
        CHECK.due("the 65th", x.set(64, 0), false);
        CHECK.due("nothing changes", Due.stateOf(x), before);
        CHECK.due("the 66th", x.set(65, 0), false);
        CHECK.due("the 64th anew", x.set(63, 3), true);
        CHECK.due("word 63", Due.wordOf(x, 63), "3");
        CHECK.due("word 64", Due.wordOf(x, 64), "throws");
        CHECK.due("64 of them", x.total(0), 64);
    }

    private static void namesStay() {
        CHECK.sentence("(LABELS and CONSTANTS stay.)");
        KernelText x = Due.made("c=7;l:exit;m:sync;end:;");
        x.set(0, Due.bits(40, 0, 0, 0, 8, 0));
        x.set(1, -1);
        x.set(2, 0);
        x.set(3, 0);
        CHECK.due("so many", x.total(2), 4);
        CHECK.due("c", Due.nameOf(x, "c"), "7");
        CHECK.due("l", Due.nameOf(x, "l"), "0");
        CHECK.due("m", Due.nameOf(x, "m"), "1");
        CHECK.due("end", Due.nameOf(x, "end"), "2");
        CHECK.due("the tape is as it was", Due.taped(x), 0);
    }
}
