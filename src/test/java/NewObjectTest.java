/** Promise 1: a new object has no kernel. */
public final class NewObjectTest {
    public static void main(String[] args) {
        Due check = new Due();
        KernelText x = new KernelText();
        check.sentence("KernelText(): No KERNEL (0 WORDS).");
        for (int what = 0; what < 4; what++) {
            check.due("total " + what, x.total(what), 0);
        }
        check.due("fault(0)", x.fault(0), 0);
        check.due("fault(1)", x.fault(1), 0);
        check.due("word(0)", Due.wordOf(x, 0), "throws");
        check.due("letter(0, 0)", x.letter(0, 0), -1);
        check.due("name a", Due.nameOf(x, "a"), "throws");
        check.due("name 0", Due.nameOf(x, 0), "throws");
        check.due("way(0, 0)", x.way(0, 0), -1);
        check.due("reached(0)", x.reached(0), false);
        check.due("live(0, 0)", x.live(0, 0), false);
        check.due("meet(0)", x.meet(0), -1);
        check.due("set(1, 0)", x.set(1, 0), false);
        check.due("set(0, 0)", x.set(0, 0), true);

        check.sentence("KernelText(): the TAPE has nothing on it");
        check.due("compile()", Due.compile(new KernelText(), ""), 0);
        check.due("characters", Due.taped(new KernelText()), 0);

        check.sentence("KernelText(): objects are apart");
        KernelText other = Due.made("a:exit;");
        KernelText fresh = new KernelText();
        check.due("words of another", fresh.total(0), 0);
        check.due("names of another", Due.nameOf(fresh, "a"), "throws");
        Due.compile(fresh, "sync;");
        check.due("words of the one", Due.spelled(other, 0), "exit;");

        check.sentence("public static final int NONE = -1;");
        check.due("NONE", KernelText.NONE, -1);
        check.due("fault(2)", x.fault(2), KernelText.NONE);

        check.sentence("An object is used for at most 512 calls after it has been made");
        lastCalls(check);
        check.end();
    }

    private static void lastCalls(Due check) {
        KernelText x = new KernelText();
        for (int i = 0; i < 255; i++) {
            x.set(Math.min(i, 63), 1);
            x.letter(0, 0);
        }
        check.due("the 511th call", x.total(0), 64);
        check.due("the 512th call", x.meet(0), -1);
    }
}
