/** Promise 6: word. */
public final class WordTest {
    public static void main(String[] args) {
        Due check = new Due();
        KernelText x = Due.made("tid r1;lessn p0,r1,5;@!p0 go 5;addn r2,r1,-1;store (r1+0),r2;");
        long[] want = {259, 21474840608L, 21487419432L, -4294962670L, 135219};
        for (int k = 0; k < want.length; k++) {
            check.due("word " + k, Due.wordOf(x, k), Long.toString(want[k]));
        }
        for (int k : new int[] {-1, 5, 63, 64, 65, Integer.MIN_VALUE, Integer.MAX_VALUE}) {
            check.due("word " + k, Due.wordOf(x, k), "throws");
        }
        for (long w : new long[] {Long.MIN_VALUE, Long.MAX_VALUE, -1, 0x123456789abcdef0L}) {
            x.set(5, w);
            check.due("a long of any kind", Due.wordOf(x, 5), Long.toString(w));
        }
        check.end();
    }
}
