/** Promise 13: totals. */
public final class TotalTest {
    public static void main(String[] args) {
        Due check = new Due();
        KernelText x = Due.made("n=5;l:go l;m:;k:sync;word 7;");
        check.due("words", x.total(0), 3);
        check.due("reached ones", x.total(1), 1);
        check.due("labels and constants", x.total(2), 4);
        check.due("none that no text makes", x.total(3), 0);
        for (int what : new int[] {-1, 4, 5, Integer.MIN_VALUE, Integer.MAX_VALUE}) {
            check.due("total " + what, x.total(what), -1);
        }
        x.set(0, 1);
        check.due("reached, one word changed", x.total(1), 3);
        x.set(3, 255);
        x.set(4, -1);
        x.set(1, 1L << 24);
        check.due("words, two more", x.total(0), 5);
        check.due("reached up to one that no text makes", x.total(1), 2);
        check.due("three that no text makes", x.total(3), 3);
        check.due("names stay", x.total(2), 4);
        Due.compile(x, "y=1;y=2;");
        check.due("names stay behind a fault", x.total(2), 4);
        check.due("words stay behind a fault", x.total(0), 5);
        Due.compile(x, "y=1;exit;");
        check.due("names anew", x.total(2), 1);
        check.due("words anew", x.total(0), 1);
        check.due("unmade anew", x.total(3), 0);
        check.due("reached anew", x.total(1), 1);
        KernelText full = Due.made("sync;".repeat(64));
        check.due("64 reached", full.total(1), 64);
        check.end();
    }
}
