/** Promise 10: what is reached. */
public final class ReachedTest {
    private static final Due CHECK = new Due();

    public static void main(String[] args) {
        reachedIs("", "");
        reachedIs("exit;", "1");
        reachedIs("sync;sync;exit;sync;", "1110");
        reachedIs("go 2;sync;sync;", "101");
        reachedIs("go 2;exit;go 1;exit;", "1110");
        reachedIs("@p0 go 3;exit;sync;sync;", "1101");
        reachedIs("@p0 exit;sync;", "11");
        reachedIs("@p0 back r1;back r1;sync;", "110");
        reachedIs("call r1,2;sync;back r1;", "101");
        reachedIs("@p0 call r1,2;sync;back r1;", "111");
        reachedIs("go 0;sync;", "10");
        reachedIs("go 63;sync;", "10");
        reachedIs("word 1;sync;", "10");
        reachedIs("go 1;", "1");

        KernelText x = Due.made("sync;".repeat(64));
        CHECK.due("the last of 64", x.reached(63), true);
        CHECK.due("behind it", x.reached(64), false);
        x.set(5, 255);
        CHECK.due("up to a long that no text makes", x.reached(5), true);
        CHECK.due("not behind it", x.reached(6), false);
        CHECK.due("total", x.total(1), 6);
        CHECK.due("least", x.reached(Integer.MIN_VALUE), false);
        CHECK.due("greatest", x.reached(Integer.MAX_VALUE), false);
        CHECK.due("-64", x.reached(-64), false);
        CHECK.end();
    }

    private static void reachedIs(String text, String want) {
        KernelText x = Due.made(text);
        StringBuilder got = new StringBuilder();
        for (int k = 0; k < want.length(); k++) {
            got.append(x.reached(k) ? '1' : '0');
        }
        CHECK.due("reached in " + text, got.toString(), want);
        CHECK.due("ahead of the first", x.reached(-1), false);
        CHECK.due("behind the last", x.reached(want.length()), false);
    }
}
