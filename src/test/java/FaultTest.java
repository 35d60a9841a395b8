/** Promise 4: kinds and places of faults. */
public final class FaultTest {
    private static final Due CHECK = new Due();

    public static void main(String[] args) {
        noTokens();
        cantStand();
        tooEarly();
        namesWhereWordsCan();
        tooManyWords();
        names();
        amounts();
        leastPlace();
        latest();
        CHECK.end();
    }

    private static void faultIs(String text, String want) {
        CHECK.due("fault of " + text, Due.faultOf(text), want);
    }

    private static void noTokens() {
        faultIs("exit;#", "1@5");
        faultIs("Exit;", "1@0");
        faultIs("exiT;", "1@0");
        faultIs("add R1,r2,r3;", "1@4");
        faultIs("addX;", "1@3");
        faultIs("toolong12:exit;", "1@0");
        faultIs("abcdefgh:exit;", "0@0");
        faultIs("go abcdefghi;", "1@3");
        faultIs("set r1,2147483649;", "1@7");
        faultIs("set r1,12345678901;", "1@7");
        faultIs("set r1,00000000001;", "1@7");
        faultIs("set r1,-99999999999999999999999999;", "1@8");
        faultIs("set r1,5x;", "1@8");
        faultIs("~", "1@0");
        faultIs("   ~", "1@3");
    }

    private static void cantStand() {
        faultIs("add r1,r2;", "1@9");
        faultIs("add r1 r2,r3;", "1@7");
        faultIs("add r1,r2,r3,r4;", "1@12");
        faultIs("add r1,r2,5;", "1@10");
        faultIs("add r1,r2,p1;", "1@10");
        faultIs("add r1,r2,r16;", "1@10");
        faultIs("add r1,r2,r01;", "1@10");
        faultIs("add 29233,r2,r3;", "1@4");
        faultIs("less r1,r2,r3;", "1@5");
        faultIs("less p4,r2,r3;", "1@5");
        faultIs("pick r1,r2,r3,p4;", "1@14");
        faultIs("pick r1,r2,r3,2;", "1@14");
        faultIs("set r1,--1;", "1@8");
        faultIs("set r1,-;", "1@8");
        faultIs("set r1,+1;", "1@7");
        faultIs("load r1,(r2-3);", "1@11");
        faultIs("load r1,r2;", "1@8");
        faultIs("load r1,(r2+3;", "1@13");
        faultIs("store r1,(r2+3);", "1@6");
        faultIs("exit 1;", "1@5");
        faultIs("exit exit;", "1@5");
        faultIs("tid;", "1@3");
        faultIs("@p0;", "1@3");
        faultIs("a:@p0 ;", "1@6");
        faultIs("@p4 exit;", "1@1");
        faultIs("@!!p0 exit;", "1@2");
        faultIs("@r0 exit;", "1@1");
        faultIs("@p0 @p1 exit;", "1@4");
        faultIs("!p0 exit;", "1@0");
        faultIs(":exit;", "1@0");
        faultIs("=1;", "1@0");
        faultIs("5;", "1@0");
        faultIs("a::exit;", "1@2");
        faultIs("x=;", "1@2");
        faultIs("x=1 2;", "1@4");
        faultIs("x==1;", "1@2");
        faultIs("x=(1);", "1@2");
        faultIs("5=1;", "1@0");
    }

    private static void tooEarly() {
        faultIs("exit", "1@4");
        faultIs("exit  ", "1@6");
        faultIs("add", "1@3");
        faultIs("a:", "1@2");
        faultIs("@", "1@1");
        faultIs("@!", "1@2");
        faultIs("@p0 ", "1@4");
        faultIs("x=", "1@2");
        faultIs("x=-", "1@3");
        faultIs("x=5", "1@3");
        faultIs("exit;go", "1@7");
        faultIs("load r1,(r2+", "1@12");
        faultIs("a:".repeat(350), "1@700");
        faultIs(" ".repeat(696) + "exit", "1@700");
        faultIs(" ".repeat(692) + "set r1,5", "1@700");
        faultIs(" ".repeat(696) + "nope", "1@696");
        faultIs(";".repeat(700), "0@0");
    }

    private static void namesWhereWordsCan() {
        faultIs("nope;", "1@0");
        faultIs("nope", "1@0");
        faultIs("nope r1;", "1@0");
        faultIs("exit; nope r1;", "1@6");
        faultIs("a:nope;", "1@2");
        faultIs("@p1 nope;", "1@4");
        faultIs("@p1 a:exit;", "1@4");
        faultIs("@p1 a=1;", "1@4");
        faultIs("@p1 exit:exit;", "1@8");
        faultIs("a:b=1;", "1@3");
        faultIs("a:exit=1;", "1@6");
        faultIs("r1;", "1@0");
    }

    private static void tooManyWords() {
        String most = "sync;".repeat(64);
        faultIs(most, "0@0");
        faultIs(most + "exit;", "1@320");
        faultIs(most + " l: @!p0 exit;", "1@329");
        faultIs(most + "add;", "1@320");
        faultIs(most + "exit:;exit2=5;", "0@0");
        faultIs(most + "@p0;", "1@323");
        faultIs("go zz;" + most, "1@321");
    }

    private static void names() {
        faultIs("go zz;", "2@3");
        faultIs("set r1,- zz;", "2@9");
        faultIs("x=y;", "2@2");
        faultIs("x=x;", "2@2");
        faultIs("x=y;y=1;", "2@2");
        faultIs("x=l;l:exit;", "2@2");
        faultIs("l:exit;x=l;", "0@0");
        faultIs("x:x:;", "2@2");
        faultIs("x=1;x=2;", "2@4");
        faultIs("x=1;x=1;", "2@4");
        faultIs("x:exit;x=2;", "2@7");
        faultIs("x=2;x:exit;", "2@4");
        faultIs("x=1;x=y;", "2@4");
        faultIs("set r1,x;x=y;", "2@11");
        faultIs("go x;x=-y;", "2@8");
    }

    private static void amounts() {
        faultIs("set r1,2147483648;", "3@7");
        faultIs("set r1,-2147483648;", "0@0");
        faultIs("x=2147483648;", "3@2");
        faultIs("x=-2147483648;y=-x;", "3@16");
        faultIs("x=-2147483648;set r1,- x;", "3@21");
        faultIs("word 2147483648;", "3@5");
        faultIs("load r1,(r2+2147483648);", "3@12");
        faultIs("go 63;", "0@0");
        faultIs("go 64;", "3@3");
        faultIs("go -1;", "3@3");
        faultIs("go -0;", "0@0");
        faultIs("go 2147483648;", "3@3");
        faultIs("call r1,63;", "0@0");
        faultIs("call r1,64;", "3@8");
        faultIs("call r1,-x;x=1;", "3@8");
        faultIs("go x;x=64;", "3@3");
        faultIs("sync;".repeat(63) + "go l;l:;", "3@318");
        faultIs("word 64;", "0@0");
        faultIs("set r1,x;x=2147483648;", "3@7");
        faultIs("set r1,-x;x=2147483648;", "3@12");
    }

    private static void leastPlace() {
        faultIs("go 64;go zz;", "3@3");
        faultIs("go zz;go 64;", "2@3");
        faultIs("go zz;x=2147483648;", "2@3");
        faultIs("x=2147483648;go zz;", "3@2");
        faultIs("go 64;x=1;x=2;", "3@3");
        faultIs("x=1;x=2;go 64;", "2@4");
        faultIs("go 64;go zz;x=1;x=1;add", "1@23");
        faultIs("go zz;#", "1@6");
        faultIs("go x;x=100;x=5;", "3@3");
        faultIs("go x;x=5;x=100;", "2@9");
    }

    private static void latest() {
        KernelText x = new KernelText();
        Due.compile(x, "go 64;");
        CHECK.due("kind", x.fault(0), 3);
        CHECK.due("place", x.fault(1), 3);
        for (int what : new int[] {-1, 2, 3, Integer.MIN_VALUE, Integer.MAX_VALUE}) {
            CHECK.due("fault " + what, x.fault(what), -1);
        }
        x.type('a', 1);
        x.set(0, 5);
        CHECK.due("other calls leave it", x.fault(0) * 100 + x.fault(1), 303);
        Due.compile(x, "a".repeat(20));
        Due.compile(x, "exit");
        CHECK.due("letters of an older tape are no part of this one", x.fault(1), 4);
        Due.compile(x, "0".repeat(20));
        Due.compile(x, "set r1,5");
        CHECK.due("nor are its digits", x.fault(1), 8);
        Due.compile(x, "a:;");
        CHECK.due("no kind behind a good one", x.fault(0), 0);
        CHECK.due("no place behind a good one", x.fault(1), 0);
        CHECK.due("what 2 behind a good one", x.fault(2), -1);
    }
}
