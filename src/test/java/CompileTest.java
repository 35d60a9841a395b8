import java.util.Random;

/** Promise 3: what a text makes, and what stays when it has a fault. */
public final class CompileTest {
    private static final Due CHECK = new Due();

    public static void main(String[] args) {
        everyWord();
        guards();
        statements();
        amounts();
        counts();
        faultsLeaveAllAsItIs();
        CHECK.end();
    }

    private static void makes(String text, long want) {
        KernelText x = new KernelText();
        CHECK.due("words of " + text, Due.compile(x, text), 1);
        CHECK.due("word of " + text, Due.wordOf(x, 0), Long.toString(want));
    }

    private static void everyWord() {
        makes("exit;", 0);
        makes("sync;", 1);
        makes("set r3,7;", Due.bits(2, 3, 0, 0, 0, 7));
        String[] named = {"tid", "bid", "size", "grid", "lane", "warp", "wide"};
        for (int i = 0; i < named.length; i++) {
            makes(named[i] + " r9;", Due.bits(3, 9, 0, 0, 0, i));
        }
        String[] three = {"add", "sub", "mul", "div", "rem", "and", "or", "xor", "shl", "shr", "sar", "min", "max",
            "high"};
        for (int i = 0; i < three.length; i++) {
            makes(three[i] + " r1,r2,r15;", Due.bits(4 + i, 1, 2, 15, 0, 0));
        }
        makes("addn r1,r2,-4;", Due.bits(18, 1, 2, 0, 0, -4));
        makes("muln r1,r2,4;", Due.bits(19, 1, 2, 0, 0, 4));
        makes("andn r1,r2,4;", Due.bits(20, 1, 2, 0, 0, 4));
        makes("swap r1,r2,4;", Due.bits(73, 1, 2, 0, 0, 4));
        makes("pick r1,r2,r3,p2;", Due.bits(21, 1, 2, 3, 0, 2));
        makes("less p1,r2,r3;", Due.bits(30, 1, 2, 3, 0, 0));
        makes("same p1,r2,r3;", Due.bits(31, 1, 2, 3, 0, 0));
        makes("lessn p1,r2,8;", Due.bits(32, 1, 2, 0, 0, 8));
        makes("samen p1,r2,8;", Due.bits(33, 1, 2, 0, 0, 8));
        makes("both p1,p2,p3;", Due.bits(34, 1, 2, 3, 0, 0));
        makes("either p1,p2,p3;", Due.bits(35, 1, 2, 3, 0, 0));
        makes("not p1,p2;", Due.bits(36, 1, 2, 0, 0, 0));
        makes("any p1,p2;", Due.bits(70, 1, 2, 0, 0, 0));
        makes("all p1,p2;", Due.bits(71, 1, 2, 0, 0, 0));
        makes("count r10,p2;", Due.bits(72, 10, 2, 0, 0, 0));
        makes("go 63;", Due.bits(40, 0, 0, 0, 0, 63));
        makes("call r4,0;", Due.bits(41, 4, 0, 0, 0, 0));
        makes("back r4;", Due.bits(42, 0, 4, 0, 0, 0));
        String[] memory = {"load", "store", "loads", "stores", "atadd", "atmax", "atswap", "atcas", "sadd", "sswap"};
        for (int i = 0; i < memory.length; i++) {
            boolean load = i == 0 || i == 2;
            boolean store = i == 1 || i == 3;
            String text = memory[i] + (store ? " (r2+4)" : " r1,(r2+4)") + (load ? ";" : ",r3;");
            makes(text, Due.bits(50 + i, store ? 0 : 1, 2, load ? 0 : 3, 0, 4));
        }
        makes("word -1;", Due.bits(0, 0, 0, 0, 0, -1));
        makes("@p2 word 12;", Due.bits(0, 0, 0, 0, 10, 12));
        makes("word 0;", 0);
    }

    private static void guards() {
        for (int k = 0; k < 4; k++) {
            makes("@p" + k + " exit;", Due.bits(0, 0, 0, 0, 8 + k, 0));
            makes("@!p" + k + " go 5;", Due.bits(40, 0, 0, 0, 12 + k, 5));
        }
        makes("l : @ ! p1 add r1 , r2 , r3 ;", Due.bits(4, 1, 2, 3, 13, 0));
        makes("@p0 store(r1+0),r2;", Due.bits(51, 0, 1, 2, 8, 0));
    }

    private static void statements() {
        CHECK.due("empty statements", Due.compile(new KernelText(), ";;  ;"), 0);
        CHECK.due("labels alone", Due.compile(new KernelText(), "a:b: ;c:;"), 0);
        CHECK.due("blanks alone", Due.compile(new KernelText(), "    "), 0);
        makes("  exit  ;  ", 0);
        makes("a:b:sync;", 1);
        makes("exit:exit;", 0);
        makes("add=3;set r1,add;", Due.bits(2, 1, 0, 0, 0, 3));
        makes("r1=3;set r1,r1;", Due.bits(2, 1, 0, 0, 0, 3));
        makes("p0:@p0 go p0;", Due.bits(40, 0, 0, 0, 8, 0));
    }

    private static void amounts() {
        makes("set r1,2147483647;", Due.bits(2, 1, 0, 0, 0, Integer.MAX_VALUE));
        makes("set r1,-2147483648;", Due.bits(2, 1, 0, 0, 0, Integer.MIN_VALUE));
        makes("set r1,0000000012;", Due.bits(2, 1, 0, 0, 0, 12));
        makes("set r1,- 12;", Due.bits(2, 1, 0, 0, 0, -12));
        makes("set r1,late;late=7;", Due.bits(2, 1, 0, 0, 0, 7));
        makes("set r1,-late;late=7;", Due.bits(2, 1, 0, 0, 0, -7));
        makes("set r1,l;l:;", Due.bits(2, 1, 0, 0, 0, 1));
        makes("x=-4;y=-x;set r1,y;", Due.bits(2, 1, 0, 0, 0, 4));
        makes("load r1,(r2+l);l:;", Due.bits(50, 1, 2, 0, 0, 1));
        makes("word l;l:;", Due.bits(0, 0, 0, 0, 0, 1));
        KernelText x = Due.made("exit;l:exit;c=l;go c;call r1,l;");
        CHECK.due("a label told ahead in a constant", Due.spelled(x, 2), "go 1;");
        CHECK.due("a label in call", Due.spelled(x, 3), "call r1,1;");
    }

    private static void counts() {
        String most = "exit;".repeat(64);
        KernelText x = new KernelText();
        CHECK.due("64 words", Due.compile(x, most), 64);
        CHECK.due("64 words and a label", Due.compile(x, most + "end:;c=end;"), 64);
        CHECK.due("its place", Due.nameOf(x, Due.packed("end")), "64");
        CHECK.due("65 words", Due.compile(x, most + "exit;"), -1);
        CHECK.due("no tape is left", Due.compile(x, "sync;"), 1);
        Random dice = new Random(3);
        for (int i = 0; i < 100; i++) {
            int many = dice.nextInt(65);
            CHECK.due("words " + many, Due.compile(x, "sync;".repeat(many)), many);
            CHECK.due("total " + many, x.total(0), many);
        }
    }

    private static void faultsLeaveAllAsItIs() {
        KernelText x = Due.made("n=5;l:set r1,n;go l;");
        for (String bad : new String[] {"add", "m=1;m=2;sync;", "set r1,2147483648;", "go 64;", "x=y;", "@p0;"}) {
            CHECK.due("fault of " + bad, Due.compile(x, bad), -1);
            CHECK.due("words stay", x.total(0), 2);
            CHECK.due("names stay", x.total(2), 2);
            CHECK.due("n stays", Due.nameOf(x, 'n'), "5");
            CHECK.due("m is none", Due.nameOf(x, 'm'), "throws");
            CHECK.due("word 0 stays", Due.spelled(x, 0), "set r1,5;");
            CHECK.due("word 1 stays", Due.spelled(x, 1), "go 0;");
            CHECK.due("way stays", x.way(1, 0), 0);
        }
        CHECK.due("the tape is empty behind a fault", Due.compile(x, ""), 0);
        CHECK.due("and the kernel is then", x.total(0), 0);
        CHECK.due("and no names are left", x.total(2), 0);
    }
}
