/** Promise 9: ways on. */
public final class WayTest {
    private static final Due CHECK = new Due();

    public static void main(String[] args) {
        waysOf("exit;", -1, -1);
        waysOf("word 5;", -1, -1);
        waysOf("back r1;", -1, -1);
        waysOf("go 7;", 7, -1);
        waysOf("call r1,9;", 9, -1);
        waysOf("go 63;", 63, -1);
        waysOf("@p0 exit;", 2, -1);
        waysOf("@!p0 word 5;", 2, -1);
        waysOf("@p3 back r1;", 2, -1);
        waysOf("@p1 go 7;", 7, 2);
        waysOf("@p1 go 0;", 0, 2);
        waysOf("@p1 go 1;", 1, 2);
        waysOf("@p1 go 2;", 2, 2);
        waysOf("@!p1 call r1,63;", 63, 2);
        for (String text : new String[] {"sync;", "set r1,7;", "add r1,r2,r3;", "@p0 sync;", "@!p3 add r1,r2,r3;",
            "store (r1+7),r2;", "not p1,p2;", "@p1 any p1,p2;", "tid r1;", "swap r1,r2,7;"}) {
            waysOf(text, 2, -1);
        }
        unmade();
        edges();
        CHECK.end();
    }

    /** The ways from a word at place 1, with a word behind it and without one. */
    private static void waysOf(String text, int first, int second) {
        for (String behind : new String[] {"", "sync;"}) {
            KernelText x = Due.made("sync;" + text + behind);
            CHECK.due("first way of " + text, x.way(1, 0), first);
            CHECK.due("second way of " + text, x.way(1, 1), second);
            CHECK.due("third way of " + text, x.way(1, 2), -1);
        }
    }

    private static void unmade() {
        KernelText x = new KernelText();
        long[] odd = {200, Due.bits(40, 0, 0, 0, 8, 64), Due.bits(1, 0, 0, 0, 8, 1), Due.bits(1, 0, 0, 0, 3, 0), -1};
        for (long w : odd) {
            x.set(0, w);
            CHECK.due("first way of " + w, x.way(0, 0), -1);
            CHECK.due("second way of " + w, x.way(0, 1), -1);
        }
    }

    private static void edges() {
        KernelText x = Due.made("@p0 go 0;");
        for (int k : new int[] {-1, 1, 63, 64, Integer.MIN_VALUE, Integer.MAX_VALUE}) {
            CHECK.due("way " + k, x.way(k, 0), -1);
            CHECK.due("way " + k, x.way(k, 1), -1);
        }
        for (int i : new int[] {-1, 2, Integer.MIN_VALUE, Integer.MAX_VALUE}) {
            CHECK.due("way 0 " + i, x.way(0, i), -1);
        }
        KernelText full = Due.made("sync;".repeat(63) + "@p0 go 63;");
        CHECK.due("the last place", full.way(63, 0), 63);
        CHECK.due("behind the last place", full.way(63, 1), 64);
    }
}
