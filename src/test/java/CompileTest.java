/** Promise 3: what a text makes, and what stays when it has a fault. */
public final class CompileTest {
    private static final Due CHECK = new Due();
    private static final String[] BAD = {"add", "exit", "nope;", "m=1;m=2;sync;", "go zz;", "x=y;", "set r1,2147483648;",
        "go 64;", "@p0;", "#", "sync;".repeat(65), "m=1;l:sync;k:tid r5;go zz;", "m=1;l:sync;k:tid r5;#"};

    public static void main(String[] args) {
        emptyTape();
        counts();
        kernels();
        faultsLeaveAllAsItIs();
        CHECK.end();
    }

    private static void emptyTape() {
        CHECK.sentence("The TAPE (which is empty then in any case)");
        KernelText x = Due.made("exit;sync;");
        CHECK.due("behind a good text", Due.compile(x, ""), 0);
        for (String bad : BAD) {
            KernelText y = new KernelText();
            Due.compile(y, bad);
            CHECK.due("characters behind " + bad, Due.taped(y), 0);
            Due.compile(y, bad);
            CHECK.due("a word behind " + bad, Due.compile(y, "exit;"), 1);
        }
        KernelText full = new KernelText();
        Due.compile(full, "#".repeat(700));
        CHECK.due("700 once more", Due.compile(full, ";".repeat(700)), 0);
        CHECK.due("and once more", Due.compile(full, " ".repeat(695) + "exit;"), 1);
    }

    private static void counts() {
        CHECK.sentence("becomes the KERNEL: how many WORDS (A KERNEL has at most 64 WORDS)");
        for (int many = 0; many <= 65; many++) {
            KernelText x = new KernelText();
            CHECK.due("words " + many, Due.compile(x, "sync;".repeat(many)), many == 65 ? -1 : many);
            CHECK.due("total " + many, x.total(0), many == 65 ? 0 : many);
        }
        CHECK.due("constants and labels are no words", Due.compile(new KernelText(), "x=1;a:;;b:c:exit;"), 1);
        String most = "exit;".repeat(64);
        KernelText x = new KernelText();
        CHECK.due("64 words and names", Due.compile(x, most + "end:;c=end;"), 64);
        CHECK.due("the place behind the last", Due.nameOf(x, "end"), "64");
    }

    private static void kernels() {
        CHECK.sentence("The TAPE becomes the KERNEL (at PLACES 0 ..)");
        KernelText x = Due.made("exit;sync;tid r1;");
        CHECK.due("word 0", Due.wordOf(x, 0), "0");
        CHECK.due("word 2", Due.wordOf(x, 2), "259");
        CHECK.due("a shorter one", Due.compile(x, "sync;"), 1);
        CHECK.due("word 0 anew", Due.wordOf(x, 0), "1");
        CHECK.due("word 1 is none", Due.wordOf(x, 1), "throws");
        CHECK.due("an empty one", Due.compile(x, ""), 0);
        CHECK.due("word 0 is none", Due.wordOf(x, 0), "throws");
        CHECK.due("a longer one", Due.compile(x, "tid r2;bid r3;"), 2);
        CHECK.due("word 1", Due.spelled(x, 1), "bid r3;");
        x.set(2, 5);
        CHECK.due("what was set goes too", Due.compile(x, "sync;"), 1);
        CHECK.due("total", x.total(0), 1);
    }

    private static void faultsLeaveAllAsItIs() {
        CHECK.sentence("IllegalArgumentException: it has a FAULT (all stays as it is)");
        for (String bad : BAD) {
            KernelText x = Due.made("n=5;l:set r1,n;go l;");
            x.set(2, -1);
            String before = Due.stateOf(x);
            CHECK.due("fault of " + bad, Due.compile(x, bad), -1);
            CHECK.due("words, ways and totals stay behind " + bad, Due.stateOf(x), before);
            CHECK.due("n stays", Due.nameOf(x, "n"), "5");
            CHECK.due("l stays", Due.nameOf(x, "l"), "0");
            CHECK.due("m is none", Due.nameOf(x, "m"), "throws");
            CHECK.due("k is none", Due.nameOf(x, "k"), "throws");
            CHECK.due("word 0 stays", Due.spelled(x, 0), "set r1,5;");
            CHECK.due("a good text then", Due.compile(x, "m=1;exit;"), 1);
            CHECK.due("m", Due.nameOf(x, "m"), "1");
            CHECK.due("n goes", Due.nameOf(x, "n"), "throws");
        }
    }
}
