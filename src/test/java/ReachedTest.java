/** Promise 10: what is reached. */
public final class ReachedTest {
    private static final Due CHECK = new Due();

    public static void main(String[] args) {
        CHECK.sentence("REACHED are 0 and all to which WAYS lead from there");
        reachedIs("", "");
        reachedIs("exit;", "1");
        reachedIs("sync;sync;exit;sync;", "1110");
        reachedIs("go 2;sync;sync;", "101");
        reachedIs("go 2;exit;go 1;exit;", "1110");
        reachedIs("@p0 go 3;exit;sync;sync;", "1101");
        reachedIs("@p0 exit;sync;", "11");
        reachedIs("@p0 back r1;back r1;sync;", "110");
        reachedIs("call r1,2;sync;back r1;", "101");
        reachedIs("@p0 call r1,2;sync;back r1;", "111");
        reachedIs("go 0;sync;", "10");
        reachedIs("word 1;sync;", "10");
        reachedIs("@p0 word 1;sync;", "11");
        reachedIs("go 3;go 3;go 1;go 2;", "1111");

        CHECK.sentence("REACHED: of what no TEXT makes no WAYS lead on");
        KernelText x = Due.made("sync;".repeat(64));
        x.set(5, 255);
        CHECK.due("up to it", x.reached(5), true);
        CHECK.due("not behind it", x.reached(6), false);
        x.set(5, 1);
        CHECK.due("behind another one", x.reached(6), true);
        x.set(0, -1);
        CHECK.due("at the first place", x.reached(0), true);
        CHECK.due("behind that", x.reached(1), false);

        CHECK.sentence("reached: (and there)");
        reachedIs("go 63;sync;", "10");
        reachedIs("go 1;", "1");
        reachedIs("sync;", "1");
        KernelText full = Due.made("sync;".repeat(64));
        CHECK.due("the last of 64", full.reached(63), true);
        for (int k : new int[] {64, 65, 128, -1, -63, -64, Integer.MIN_VALUE, Integer.MAX_VALUE}) {
            CHECK.due("reached " + k, full.reached(k), false);
        }
        CHECK.due("0 where there is no kernel", new KernelText().reached(0), false);
        Due.compile(full, "sync;");
        CHECK.due("one of an older kernel", full.reached(1), false);
        CHECK.end();
    }

    private static void reachedIs(String text, String want) {
        KernelText x = Due.made(text);
        StringBuilder got = new StringBuilder();
        for (int k = 0; k < want.length(); k++) {
            got.append(x.reached(k) ? '1' : '0');
        }
        CHECK.due("reached in " + text, got.toString(), want);
        CHECK.due("ahead of the first", x.reached(-1), false);
        CHECK.due("behind the last", x.reached(want.length()), false);
    }
}
