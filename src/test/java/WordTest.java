/** Promise 6: word. */
public final class WordTest {
    public static void main(String[] args) {
        Due check = new Due();
        check.sentence("WORD k");
        KernelText x = Due.made("tid r1;lessn p0,r1,5;@!p0 go 5;addn r2,r1,-1;store (r1+0),r2;");
        long[] want = {259, 21474840608L, 21487419432L, -4294962670L, 135219};
        for (int k = 0; k < want.length; k++) {
            check.due("word " + k, Due.wordOf(x, k), Long.toString(want[k]));
        }
        for (long w : new long[] {Long.MIN_VALUE, Long.MAX_VALUE, -1, 0x123456789abcdef0L}) {
            x.set(5, w);
            check.due("a long of any kind", Due.wordOf(x, 5), Long.toString(w));
        }

        check.sentence("word: NoSuchElementException: there is none such");
        for (int many : new int[] {0, 1, 5, 63, 64}) {
            KernelText y = Due.made("sync;".repeat(many));
            if (many > 0) {
                check.due("the first of " + many, Due.wordOf(y, 0), "1");
                check.due("the last of " + many, Due.wordOf(y, many - 1), "1");
            }
            for (int k : new int[] {-1, many, many + 1, 64, 65, -64, Integer.MIN_VALUE, Integer.MAX_VALUE}) {
                check.due("word " + k + " of " + many, Due.wordOf(y, k), "throws");
            }
        }
        KernelText z = Due.made("sync;sync;");
        Due.compile(z, "sync;");
        check.due("one of an older kernel", Due.wordOf(z, 1), "throws");
        check.end();
    }
}
