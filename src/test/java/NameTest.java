/** Promise 8: what names are. */
public final class NameTest {
    private static final Due CHECK = new Due();

    public static void main(String[] args) {
        letters();
        values();
        latestGood();
        noneSuch();
        manyNames();
        CHECK.end();
    }

    private static void is(KernelText x, String name, String want) {
        CHECK.due("name " + name, Due.nameOf(x, name), want);
    }

    private static void letters() {
        CHECK.sentence("a NAME (its letters are the lowest bytes, the last one lowest)");
        KernelText x = Due.made("ab=1;ba=2;a=3;c1d2e3f4=4;");
        CHECK.due("ab", Due.nameOf(x, 0x6162), "1");
        CHECK.due("ba", Due.nameOf(x, 0x6261), "2");
        CHECK.due("a", Due.nameOf(x, 0x61), "3");
        CHECK.due("eight letters", Due.nameOf(x, 0x6331643265336634L), "4");
        CHECK.due("letters highest", Due.nameOf(x, 0x6100000000000000L), "throws");
        CHECK.due("a zero byte behind", Due.nameOf(x, 0x6100), "throws");
        CHECK.due("a byte ahead", Due.nameOf(x, 1L << 56 | 0x61), "throws");
        CHECK.due("a blank ahead", Due.nameOf(x, 0x2061), "throws");
    }

    private static void values() {
        CHECK.sentence("a LABEL's PLACE");
        KernelText x = Due.made("a:b:exit;c:;d:" + "sync;".repeat(62) + "y:sync;z:;");
        is(x, "a", "0");
        is(x, "b", "0");
        is(x, "c", "1");
        is(x, "d", "1");
        is(x, "y", "63");
        is(x, "z", "64");

        CHECK.sentence("a CONSTANT");
        x = Due.made("n=-5;big=2147483647;low=-2147483648;nil=-0;l:exit;m:;c=m;d=-m;e=-big;");
        is(x, "n", "-5");
        is(x, "big", "2147483647");
        is(x, "low", "-2147483648");
        is(x, "nil", "0");
        is(x, "c", "1");
        is(x, "d", "-1");
        is(x, "e", "-2147483647");
    }

    private static void latestGood() {
        CHECK.sentence("name: of the latest good compile()");
        KernelText x = Due.made("a:exit;end:;");
        Due.compile(x, "a=9;a=8;");
        is(x, "a", "0");
        Due.compile(x, "new=9;#");
        is(x, "end", "1");
        is(x, "new", "throws");
        Due.compile(x, "q=1;");
        is(x, "q", "1");
        is(x, "a", "throws");
        x.set(0, 4);
        is(x, "q", "1");
        Due.compile(x, "");
        is(x, "q", "throws");
    }

    private static void noneSuch() {
        CHECK.sentence("name: NoSuchElementException: there is none such");
        KernelText x = Due.made("abc:exit;abcdefgh=5;");
        is(x, "abc", "0");
        is(x, "abcdefgh", "5");
        for (String none : new String[] {"", "ab", "bc", "abd", "abcd", "Abc", "abcdefg", "bcdefgh", "exit", "r1"}) {
            is(x, none, "throws");
        }
        for (long none : new long[] {0, -1, 1, Long.MIN_VALUE, Long.MAX_VALUE}) {
            CHECK.due("name " + none, Due.nameOf(x, none), "throws");
        }
        CHECK.due("name 0 where there are none", Due.nameOf(Due.made("exit;"), 0), "throws");
    }

    private static void manyNames() {
        CHECK.sentence("name: as many as the TAPE has room for");
        StringBuilder text = new StringBuilder();
        int many = 0;
        for (int i = 0; text.length() <= 696; i++) {
            String tail = i < 26 ? "" : Integer.toString((i - 26) / 26, 36);
            text.append((char) ('a' + i % 26)).append(tail).append(':');
            many++;
        }
        KernelText x = Due.made(text.append(';').toString());
        CHECK.due("total", x.total(2), many);
        is(x, "z", "0");
        is(x, "a3", "0");
    }
}
