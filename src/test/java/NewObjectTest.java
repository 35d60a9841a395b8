/** Promise 1: a new object has no kernel. */
public final class NewObjectTest {
    public static void main(String[] args) {
        Due check = new Due();
        KernelText x = new KernelText();
        check.due("NONE", KernelText.NONE, -1);
        for (int what = 0; what < 4; what++) {
            check.due("total " + what, x.total(what), 0);
        }
        check.due("fault(0)", x.fault(0), 0);
        check.due("fault(1)", x.fault(1), 0);
        check.due("word(0)", Due.wordOf(x, 0), "throws");
        check.due("letter(0, 0)", x.letter(0, 0), -1);
        check.due("name", Due.nameOf(x, 'a'), "throws");
        check.due("name 0", Due.nameOf(x, 0), "throws");
        check.due("way(0, 0)", x.way(0, 0), -1);
        check.due("reached(0)", x.reached(0), false);
        check.due("live(0, 0)", x.live(0, 0), false);
        check.due("meet(0)", x.meet(0), -1);
        check.due("an empty tape", Due.compile(x, ""), 0);

        KernelText other = Due.made("a:exit;");
        check.due("objects are apart", new KernelText().total(0) + other.total(0), 1);
        check.end();
    }
}
