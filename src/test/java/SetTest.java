/** Promise 5: set. */
public final class SetTest {
    public static void main(String[] args) {
        Due check = new Due();
        KernelText x = new KernelText();
        check.due("ahead of the first", x.set(-1, 0), false);
        check.due("behind the next", x.set(1, 0), false);
        check.due("nothing was set", x.total(0), 0);
        for (int k = 0; k < 64; k++) {
            check.due("set " + k, x.set(k, 1000 + k), true);
            check.due("one more", x.total(0), k + 1);
            check.due("not two more", x.set(k + 2, 0), false);
        }
        check.due("the 65th", x.set(64, 0), false);
        check.due("least k", x.set(Integer.MIN_VALUE, 0), false);
        check.due("greatest k", x.set(Integer.MAX_VALUE, 0), false);
        check.due("still 64", x.total(0), 64);
        check.due("anew", x.set(10, Long.MIN_VALUE), true);
        check.due("still 64", x.total(0), 64);
        for (int k = 0; k < 64; k++) {
            check.due("word " + k, Due.wordOf(x, k), Long.toString(k == 10 ? Long.MIN_VALUE : 1000 + k));
        }

        KernelText y = Due.made("c=7;l:exit;m:sync;");
        check.due("over a label's word", y.set(0, Due.bits(40, 0, 0, 0, 8, 0)), true);
        check.due("text anew", Due.spelled(y, 0), "@p0 go 0;");
        check.due("way anew", y.way(0, 1), 1);
        check.due("one more", y.set(2, -1), true);
        check.due("names stay", y.total(2), 3);
        check.due("m stays", Due.nameOf(y, 'm'), "1");
        check.due("c stays", Due.nameOf(y, 'c'), "7");
        check.due("no fault comes of it", y.fault(0), 0);
        y.set(1, 0);
        check.due("the tape stays", Due.compile(y, "sync;"), 1);
        check.due("a compile drops what was set", Due.wordOf(y, 1), "throws");
        check.due("and that place can be set again", y.set(1, 0), true);
        check.end();
    }
}
