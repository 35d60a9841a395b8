/** Promise 13: totals. */
public final class TotalTest {
    private static final Due CHECK = new Due();

    public static void main(String[] args) {
        words();
        reachedOnes();
        names();
        unmade();
        CHECK.sentence("total: NONE for another what");
        for (KernelText x : new KernelText[] {new KernelText(), Due.made("a:exit;")}) {
            for (int what : new int[] {-1, 4, 5, 256, Integer.MIN_VALUE, Integer.MAX_VALUE}) {
                CHECK.due("total " + what, x.total(what), -1);
            }
            CHECK.due("total 0", x.total(0) >= 0, true);
            CHECK.due("total 3", x.total(3), 0);
        }
        CHECK.end();
    }

    private static void words() {
        CHECK.sentence("What 0: WORDS");
        for (int many : new int[] {0, 1, 63, 64}) {
            KernelText x = Due.made("sync;".repeat(many));
            CHECK.due("of " + many, x.total(0), many);
            CHECK.due("one more than " + many, x.set(many, 0), many < 64);
            CHECK.due("then", x.total(0), Math.min(many + 1, 64));
            Due.compile(x, "nope;");
            CHECK.due("behind a fault", x.total(0), Math.min(many + 1, 64));
            Due.compile(x, "exit;exit;");
            CHECK.due("behind a good text", x.total(0), 2);
        }
    }

    private static void reachedOnes() {
        CHECK.sentence("1: REACHED ones");
        CHECK.due("none", new KernelText().total(1), 0);
        CHECK.due("64", Due.made("sync;".repeat(64)).total(1), 64);
        KernelText x = Due.made("l:go l;sync;word 7;");
        CHECK.due("one", x.total(1), 1);
        x.set(0, 1);
        CHECK.due("one word changed", x.total(1), 3);
        x.set(3, 0);
        CHECK.due("behind word", x.total(1), 3);
        x.set(1, 1L << 24);
        CHECK.due("up to one that no text makes", x.total(1), 2);
        Due.compile(x, "go 1;exit;");
        CHECK.due("anew", x.total(1), 2);
    }

    private static void names() {
        CHECK.sentence("2: LABELS and CONSTANTS of the latest good compile()");
        KernelText x = Due.made("n=5;l:go l;m:;k:sync;");
        CHECK.due("four", x.total(2), 4);
        x.set(0, 1);
        CHECK.due("behind set", x.total(2), 4);
        Due.compile(x, "y=1;y=2;");
        CHECK.due("behind a fault", x.total(2), 4);
        Due.compile(x, "a:b:c:d:e:#");
        CHECK.due("behind another fault", x.total(2), 4);
        Due.compile(x, "y=1;exit;");
        CHECK.due("behind a good one", x.total(2), 1);
        Due.compile(x, "exit;");
        CHECK.due("none", x.total(2), 0);
    }

    private static void unmade() {
        CHECK.sentence("3: WORDS that no TEXT makes");
        KernelText x = Due.made("sync;sync;sync;");
        CHECK.due("none", x.total(3), 0);
        x.set(3, 255);
        CHECK.due("one", x.total(3), 1);
        x.set(4, -1);
        x.set(1, 1L << 24);
        CHECK.due("three", x.total(3), 3);
        x.set(1, 1);
        CHECK.due("two", x.total(3), 2);
        Due.compile(x, "nope;");
        CHECK.due("two behind a fault", x.total(3), 2);
        Due.compile(x, "exit;");
        CHECK.due("none anew", x.total(3), 0);
        KernelText full = new KernelText();
        for (int k = 0; k < 64; k++) {
            full.set(k, 99);
        }
        CHECK.due("64", full.total(3), 64);
    }
}
