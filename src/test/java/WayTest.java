/** Promise 9, and what Terms say of ways on. */
public final class WayTest {
    private static final Due CHECK = new Due();

    public static void main(String[] args) {
        plain();
        guarded();
        unmade();
        ends();
        noneSuch();
        CHECK.end();
    }

    /** The ways from a word at place 1, with a word behind it and without one. */
    private static void waysOf(String text, int first, int second) {
        for (String behind : new String[] {"", "sync;"}) {
            KernelText x = Due.made("sync;" + text + behind);
            CHECK.due("first way of " + text, x.way(1, 0), first);
            CHECK.due("second way of " + text, x.way(1, 1), second);
        }
    }

    private static void plain() {
        CHECK.sentence("WAYS on from PLACE k: of exit and word none");
        waysOf("exit;", -1, -1);
        waysOf("word 0;", -1, -1);
        waysOf("word 5;", -1, -1);
        waysOf("word -1;", -1, -1);

        CHECK.sentence("go: n; call: n");
        for (int n : new int[] {0, 1, 2, 3, 7, 62, 63}) {
            waysOf("go " + n + ";", n, -1);
            waysOf("call r1," + n + ";", n, -1);
        }

        CHECK.sentence("back none");
        waysOf("back r1;", -1, -1);
        waysOf("back r15;", -1, -1);

        CHECK.sentence("of others k + 1");
        for (String text : new String[] {"sync;", "set r1,7;", "tid r1;", "wide r1;", "add r1,r2,r3;", "addn r1,r2,7;",
            "pick r1,r2,r3,p1;", "less p1,r2,r3;", "samen p1,r2,7;", "both p1,p2,p3;", "not p1,p2;", "any p1,p2;",
            "count r1,p1;", "load r1,(r2+7);", "store (r1+7),r2;", "atcas r1,(r2+7),r3;", "swap r1,r2,7;"}) {
            waysOf(text, 2, -1);
        }
    }

    private static void guarded() {
        CHECK.sentence("with a GUARD k + 1, too (behind the others)");
        waysOf("@p0 exit;", 2, -1);
        waysOf("@!p0 word 5;", 2, -1);
        waysOf("@p3 back r1;", 2, -1);
        waysOf("@p1 go 7;", 7, 2);
        waysOf("@p1 go 0;", 0, 2);
        waysOf("@p1 go 1;", 1, 2);
        waysOf("@p1 go 2;", 2, 2);
        waysOf("@p1 go 3;", 3, 2);
        waysOf("@!p1 call r1,63;", 63, 2);
        waysOf("go 7;", 7, -1);
        waysOf("exit;", -1, -1);
        waysOf("@p0 sync;", 2, -1);
        waysOf("@!p3 add r1,r2,r3;", 2, -1);
    }

    private static void unmade() {
        CHECK.sentence("of what no TEXT makes none");
        long[] none = {22, 200, Due.bits(40, 0, 0, 0, 8, 64), Due.bits(40, 1, 0, 0, 8, 3), Due.bits(40, 0, 0, 0, 3, 3),
            Due.bits(1, 0, 0, 0, 8, 1), Due.bits(1, 0, 0, 0, 3, 0), Due.bits(1, 0, 0, 0, 7, 0), 1L | 1L << 24, -1};
        for (long w : none) {
            CHECK.due("first way of " + w, Due.holding(w).way(0, 0), -1);
            CHECK.due("second way of " + w, Due.holding(w).way(0, 1), -1);
        }
        CHECK.due("its neighbour, go 63", Due.holding(Due.bits(40, 0, 0, 0, 8, 63)).way(0, 0), 63);
        CHECK.due("its neighbour, g 8", Due.holding(Due.bits(1, 0, 0, 0, 8, 0)).way(0, 0), 1);
        KernelText x = Due.holding(Due.bits(40, 0, 0, 0, 0, 5));
        x.set(0, 200);
        CHECK.due("set over a go", x.way(0, 0), -1);
        x.set(0, Due.bits(40, 0, 0, 0, 0, 5));
        CHECK.due("and a go again", x.way(0, 0), 5);
    }

    private static void ends() {
        CHECK.sentence("The i-th WAY on (0, 1) from PLACE k, also one that is an END");
        CHECK.due("behind the only one", Due.made("sync;").way(0, 0), 1);
        CHECK.due("go beyond the last", Due.made("go 1;").way(0, 0), 1);
        CHECK.due("go far beyond it", Due.made("@p0 go 63;").way(0, 0), 63);
        CHECK.due("behind a guarded one", Due.made("@p0 go 63;").way(0, 1), 1);
        KernelText full = Due.made("sync;".repeat(63) + "@p0 go 63;");
        CHECK.due("the last place", full.way(63, 0), 63);
        CHECK.due("behind the last place", full.way(63, 1), 64);
        CHECK.due("behind the 64th", Due.made("sync;".repeat(64)).way(63, 0), 64);
    }

    private static void noneSuch() {
        CHECK.sentence("way: NONE if there is none such");
        KernelText x = Due.made("@p0 go 0;");
        CHECK.due("way 0 0", x.way(0, 0), 0);
        CHECK.due("way 0 1", x.way(0, 1), 1);
        for (int k : new int[] {-1, 1, 2, 63, 64, 65, Integer.MIN_VALUE, Integer.MAX_VALUE}) {
            CHECK.due("way " + k + " 0", x.way(k, 0), -1);
            CHECK.due("way " + k + " 1", x.way(k, 1), -1);
        }
        for (int i : new int[] {-1, 2, 3, Integer.MIN_VALUE, Integer.MAX_VALUE}) {
            CHECK.due("way 0 " + i, x.way(0, i), -1);
        }
        Due.compile(x, "");
        CHECK.due("one of an older kernel", x.way(0, 0), -1);
    }
}
