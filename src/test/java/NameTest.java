/** Promise 8: what names are. */
public final class NameTest {
    private static final Due CHECK = new Due();

    public static void main(String[] args) {
        KernelText x = Due.made("a:b:exit;n=-5;c1d2e3f4:sync;m=c1d2e3f4;big=2147483647;low=-2147483648;end:;");
        is(x, "a", "0");
        is(x, "b", "0");
        is(x, "n", "-5");
        is(x, "c1d2e3f4", "1");
        is(x, "m", "1");
        is(x, "big", "2147483647");
        is(x, "low", "-2147483648");
        is(x, "end", "2");
        is(x, "exit", "throws");
        is(x, "z", "throws");
        is(x, "", "throws");
        is(x, "1d2e3f4", "throws");
        is(x, "A", "throws");
        CHECK.due("zero bytes behind", Due.nameOf(x, (long) 'a' << 8), "throws");
        CHECK.due("a byte ahead", Due.nameOf(x, 1L << 56 | 'a'), "throws");
        CHECK.due("-1", Due.nameOf(x, -1), "throws");
        CHECK.due("least", Due.nameOf(x, Long.MIN_VALUE), "throws");

        Due.compile(x, "a=9;a=8;");
        is(x, "a", "0");
        is(x, "end", "2");
        Due.compile(x, "q=1;");
        is(x, "q", "1");
        is(x, "a", "throws");
        x.set(0, 4);
        is(x, "q", "1");
        Due.compile(x, "");
        is(x, "q", "throws");
        manyNames();
        CHECK.end();
    }

    private static void is(KernelText x, String name, String want) {
        CHECK.due("name " + name, Due.nameOf(x, Due.packed(name)), want);
    }

    private static void manyNames() {
        StringBuilder text = new StringBuilder();
        int many = 0;
        for (int i = 0; text.length() <= 696; i++) {
            String tail = i < 26 ? "" : Integer.toString((i - 26) / 26, 36);
            text.append((char) ('a' + i % 26)).append(tail).append(':');
            many++;
        }
        KernelText x = Due.made(text.append(';').toString());
        CHECK.due("as many as fit", x.total(2), many);
        is(x, "z", "0");
        is(x, "a3", "0");
    }
}
