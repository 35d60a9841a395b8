/** Promise 4, and what Terms say of faults. */
public final class FaultTest {
    private static final Due CHECK = new Due();
    private static final String MOST = "sync;".repeat(64);

    public static void main(String[] args) {
        cantStand();
        noTokens();
        tooEarly();
        namesWhereWordsCan();
        tooManyWords();
        leastPlace();
        unknownNames();
        namesToldBefore();
        amountsBeyond();
        placesBeyond();
        promise();
        CHECK.end();
    }

    private static void cantStand() {
        CHECK.sentence("FAULTS: 1 the first TOKEN that can't stand there");
        CHECK.fault("add r1,r2,r3;", "0@0");
        CHECK.fault("add r1,r2;", "1@9");
        CHECK.fault("add r1 r2,r3;", "1@7");
        CHECK.fault("add r1,r2,r3,r4;", "1@12");
        CHECK.fault("add r1,r2,5;", "1@10");
        CHECK.fault("add r1,r2,p1;", "1@10");
        CHECK.fault("add 29233,r2,r3;", "1@4");
        CHECK.fault("load r1,(r2-3);", "1@11");
        CHECK.fault("load r1,r2;", "1@8");
        CHECK.fault("load r1,(r2+3;", "1@13");
        CHECK.fault("store r1,(r2+3);", "1@6");
        CHECK.fault("exit 1;", "1@5");
        CHECK.fault("add r1 r2 # ;", "1@7");
        CHECK.fault("# add r1 r2;", "1@0");
        CHECK.fault("exit 1;exit 1;", "1@5");
        CHECK.fault("exit 1;nope;" + MOST, "1@5");
        CHECK.fault("exit;   tid   r16   ;", "1@14");
    }

    private static void noTokens() {
        CHECK.sentence("(or is none: its first character");
        CHECK.fault("exit;#", "1@5");
        CHECK.fault("exit; #;", "1@6");
        CHECK.fault("Exit;", "1@0");
        CHECK.fault("exiT;", "1@0");
        CHECK.fault("add R1,r2,r3;", "1@4");
        CHECK.fault("   ~", "1@3");
        CHECK.fault("toolong12:exit;", "1@0");
        CHECK.fault("toolong1:exit;", "0@0");
        CHECK.fault("go abcdefghi;", "1@3");
        CHECK.fault("go abcdefgh;", "2@3");
        CHECK.fault("set r1,2147483649;", "1@7");
        CHECK.fault("set r1,2147483648;", "3@7");
        CHECK.fault("set r1,12345678901;", "1@7");
        CHECK.fault("set r1,- 00000000001;", "1@9");
        CHECK.fault("set r1,- 0000000001;", "0@0");
        CHECK.fault("@abcdefghi exit;", "1@1");
        CHECK.fault("tid r12345678;", "1@4");
    }

    private static void tooEarly() {
        CHECK.sentence("the TAPE's length, if it ends too early");
        CHECK.fault("exit", "1@4");
        CHECK.fault("exit;", "0@0");
        CHECK.fault("exit  ", "1@6");
        CHECK.fault("exit  ;", "0@0");
        CHECK.fault("add", "1@3");
        CHECK.fault("a:", "1@2");
        CHECK.fault("a:b:  ", "1@6");
        CHECK.fault("@", "1@1");
        CHECK.fault("@!", "1@2");
        CHECK.fault("@p0", "1@3");
        CHECK.fault("@p0 ", "1@4");
        CHECK.fault("x=", "1@2");
        CHECK.fault("x=-", "1@3");
        CHECK.fault("x=5", "1@3");
        CHECK.fault("x=y", "1@3");
        CHECK.fault("exit;go", "1@7");
        CHECK.fault("exit;go zz", "1@10");
        CHECK.fault("load r1,(r2+", "1@12");
        CHECK.fault("a:".repeat(350), "1@700");
        CHECK.fault("a:".repeat(349) + " ;", "2@2");
        CHECK.fault(" ".repeat(696) + "exit", "1@700");
        CHECK.fault(" ".repeat(692) + "set r1,5", "1@700");
        CHECK.fault(MOST, "0@0");
        CHECK.fault(MOST.substring(0, 319), "1@319");
    }

    private static void namesWhereWordsCan() {
        CHECK.sentence("a NAME that is none of these and has neither : nor = behind it can't stand where a WORD can");
        CHECK.fault("nope;", "1@0");
        CHECK.fault("nope", "1@0");
        CHECK.fault("nope ", "1@0");
        CHECK.fault("nope r1;", "1@0");
        CHECK.fault("nope @p0 exit;", "1@0");
        CHECK.fault("nope#", "1@0");
        CHECK.fault("nope:;", "0@0");
        CHECK.fault("nope =1;", "0@0");
        CHECK.fault("exit; nope r1;", "1@6");
        CHECK.fault("exit; nope : ;", "0@0");
        CHECK.fault(" ".repeat(696) + "nope", "1@696");
        CHECK.fault("r1;", "1@0");
        CHECK.fault("p0;", "1@0");
        CHECK.fault("exit2;", "1@0");
        CHECK.fault("exi;", "1@0");
        CHECK.fault("x=1;x;", "1@4");

        CHECK.sentence("the same behind LABELS");
        CHECK.fault("a:nope;", "1@2");
        CHECK.fault("a:b: nope", "1@5");
        CHECK.fault("a:nope:;", "0@0");
        CHECK.fault("a:exit;", "0@0");
        // It has = behind it, and so is not that NAME; but that = can't stand there.
        CHECK.fault("a:b=1;", "1@3");
        CHECK.fault("a:exit=1;", "1@6");

        CHECK.sentence("the same behind a GUARD");
        CHECK.fault("@p1 nope;", "1@4");
        CHECK.fault("@p1 nope", "1@4");
        CHECK.fault("@p1 exit;", "0@0");
        // None but a WORD's NAME can stand there, whatever is behind it.
        CHECK.fault("@p1 a:exit;", "1@4");
        CHECK.fault("@p1 a=1;", "1@4");
        CHECK.fault("@p1 exit:exit;", "1@8");
        CHECK.fault("@p1 exit=1;", "1@8");
    }

    private static void tooManyWords() {
        CHECK.sentence("a 65th WORD: its NAME)");
        CHECK.fault(MOST, "0@0");
        CHECK.fault(MOST + "exit;", "1@320");
        CHECK.fault(MOST.substring(5) + "exit;", "0@0");
        CHECK.fault(MOST + "exit", "1@320");
        CHECK.fault(MOST + "add;", "1@320");
        CHECK.fault(MOST + "add r1;", "1@320");
        CHECK.fault(MOST.substring(5) + "add r1;", "1@321");
        CHECK.fault(MOST + " l: @!p0 exit;", "1@329");
        CHECK.fault(MOST + "@p0;", "1@323");
        CHECK.fault(MOST + "nope;", "1@320");
        CHECK.fault(MOST + "exit:;exit2=5;;", "0@0");
        CHECK.fault("go zz;" + MOST, "1@321");
        CHECK.fault(MOST + ";#", "1@321");
        CHECK.fault("sync;".repeat(140), "1@320");
    }

    private static void leastPlace() {
        CHECK.sentence("Else the least place of 2 .., 3");
        CHECK.fault("go 64;go zz;", "3@3");
        CHECK.fault("go zz;go 64;", "2@3");
        CHECK.fault("go zz;x=2147483648;", "2@3");
        CHECK.fault("x=2147483648;go zz;", "3@2");
        CHECK.fault("go 64;x=1;x=2;", "3@3");
        CHECK.fault("x=1;x=2;go 64;", "2@4");
        CHECK.fault("x=1;x=2147483648;", "2@4");
        CHECK.fault("x=1;x=y;", "2@4");
        CHECK.fault("go zz;go zz;", "2@3");
        CHECK.fault("go 64;go 65;", "3@3");
        CHECK.fault("sync;go 64;l:l:;", "3@8");
        CHECK.fault("l:l:;sync;go 64;", "2@2");

        CHECK.sentence("Else: a FAULT 1 at any place is ahead of them");
        CHECK.fault("go 64;go zz;x=1;x=1;add", "1@23");
        CHECK.fault("go zz;#", "1@6");
        CHECK.fault("go zz;;", "2@3");
        CHECK.fault("x:x:", "1@4");
        CHECK.fault("x:x:;", "2@2");
        CHECK.fault("go 64", "1@5");
        CHECK.fault("go 64;", "3@3");
    }

    private static void unknownNames() {
        CHECK.sentence("2: a NAME in an N that is none");
        CHECK.fault("go zz;", "2@3");
        CHECK.fault("go zz;zz:;", "0@0");
        CHECK.fault("go zz;zz=1;", "0@0");
        CHECK.fault("go zz;zzz=1;z=1;", "2@3");
        CHECK.fault("set r1,- zz;", "2@9");
        CHECK.fault("load r1,(r2+zz);", "2@12");
        CHECK.fault("set r1,exit;", "2@7");
        CHECK.fault("set r1,r1;", "2@7");
        CHECK.fault("x=y;", "2@2");
        CHECK.fault("x=-y;", "2@3");
        CHECK.fault("x=x;", "2@2");
        CHECK.fault("x=y;y=1;", "2@2");
        CHECK.fault("y=1;x=y;", "0@0");
        CHECK.fault("x=l;l:exit;", "2@2");
        CHECK.fault("l:exit;x=l;", "0@0");
        // What x is can't be told, but it is a CONSTANT: the one FAULT is at y.
        CHECK.fault("set r1,x;x=y;", "2@11");
        CHECK.fault("go x;x=-y;", "2@8");
        KernelText x = Due.made("old=1;l:exit;");
        CHECK.due("names of an older text are none", Due.compile(x, "go old;"), -1);
        CHECK.due("nor are its labels", Due.compile(x, "go l;"), -1);
    }

    private static void namesToldBefore() {
        CHECK.sentence("a LABEL or CONSTANT that was told before (as either; at its NAME)");
        CHECK.fault("x:x:;", "2@2");
        CHECK.fault("x:y:;", "0@0");
        CHECK.fault("x:;  x  :;", "2@5");
        CHECK.fault("x=1;x=2;", "2@4");
        CHECK.fault("x=1;x=1;", "2@4");
        CHECK.fault("x=1;y=1;", "0@0");
        CHECK.fault("x:exit;x=2;", "2@7");
        CHECK.fault("x=2;x:exit;", "2@4");
        CHECK.fault("x=1;x=2;x=3;", "2@4");
        CHECK.fault("x=1;a:x:exit;", "2@6");
        CHECK.fault("x=1;x=x;", "2@4");
        CHECK.fault("abcdefgh:abcdefgh:;", "2@9");
        CHECK.fault("abcdefgh:abcdefgi:;", "0@0");
        KernelText x = Due.made("x=1;");
        CHECK.due("told by an older text", Due.compile(x, "x=2;"), 0);
        CHECK.due("and anew", Due.nameOf(x, "x"), "2");
        Due.compile(x, "y=1;y=2;");
        CHECK.due("told by an older text with a fault", Due.compile(x, "y=3;"), 0);
    }

    private static void amountsBeyond() {
        CHECK.sentence("3: an N beyond -2147483648 .. 2147483647 (its first TOKEN)");
        CHECK.fault("set r1,2147483648;", "3@7");
        CHECK.fault("set r1,2147483647;", "0@0");
        CHECK.fault("set r1,-2147483648;", "0@0");
        CHECK.fault("x=2147483648;", "3@2");
        CHECK.fault("x=2147483647;", "0@0");
        CHECK.fault("x=-2147483648;", "0@0");
        CHECK.fault("x=-2147483648;y=-x;", "3@16");
        CHECK.fault("x=-2147483647;y=-x;", "0@0");
        CHECK.fault("x=-2147483648;y=x;", "0@0");
        CHECK.fault("x=-2147483648;set r1,- x;", "3@21");
        CHECK.fault("x=-2147483648;set r1, x;", "0@0");
        CHECK.fault("word 2147483648;", "3@5");
        CHECK.fault("load r1,(r2+2147483648);", "3@12");
        CHECK.fault("addn r1,r2,2147483648;", "3@11");
        CHECK.fault("lessn p1,r2,2147483648;", "3@12");

        CHECK.sentence("3: an N through a CONSTANT that is beyond them itself");
        CHECK.fault("set r1,x;x=2147483648;", "3@7");
        CHECK.fault("set r1,-x;x=2147483648;", "3@12");
        CHECK.fault("x=2147483648;set r1,x;", "3@2");
        CHECK.fault("x=2147483648;y=-x;z=y;", "3@2");
    }

    private static void placesBeyond() {
        CHECK.sentence("or of go, call below 0 or above 63");
        CHECK.fault("go 63;", "0@0");
        CHECK.fault("go 64;", "3@3");
        CHECK.fault("go 0;", "0@0");
        CHECK.fault("go -0;", "0@0");
        CHECK.fault("go -1;", "3@3");
        CHECK.fault("go - 1;", "3@3");
        CHECK.fault("go 2147483647;", "3@3");
        CHECK.fault("go 2147483648;", "3@3");
        CHECK.fault("go -2147483648;", "3@3");
        CHECK.fault("call r1,63;", "0@0");
        CHECK.fault("call r1,64;", "3@8");
        CHECK.fault("call r1,0;", "0@0");
        CHECK.fault("call r1,-1;", "3@8");
        CHECK.fault("call r1,-x;x=1;", "3@8");
        CHECK.fault("call r1,-x;x=-1;", "0@0");
        CHECK.fault("go x;x=64;", "3@3");
        CHECK.fault("go x;x=63;", "0@0");
        CHECK.fault("sync;".repeat(63) + "go l;l:;", "3@318");
        CHECK.fault("sync;".repeat(62) + "go l;l:;", "0@0");
        CHECK.fault("@p0 go 64;", "3@7");
        // Of others the bounds are those of an int.
        CHECK.fault("word 64;", "0@0");
        CHECK.fault("word -1;", "0@0");
        CHECK.fault("set r1,64;", "0@0");
        CHECK.fault("x=64;y=-1;", "0@0");
    }

    private static String told(KernelText x) {
        return x.fault(0) + "@" + x.fault(1);
    }

    private static void promise() {
        CHECK.sentence("what 0: its kind (0 none), 1: its place");
        CHECK.due("ahead of any compile()", told(new KernelText()), "0@0");
        CHECK.fault("exit;", "0@0");
        CHECK.fault("exit", "1@4");
        CHECK.fault("go zz;", "2@3");
        CHECK.fault("go 64;", "3@3");
        CHECK.fault("~", "1@0");

        CHECK.sentence("The FAULT of the latest compile()");
        KernelText x = new KernelText();
        Due.compile(x, "go 64;");
        CHECK.due("the first", told(x), "3@3");
        Due.compile(x, "go zz;#");
        CHECK.due("the second", told(x), "1@6");
        x.type('a', 1);
        CHECK.due("type leaves it", told(x), "1@6");
        x.type(7, 9);
        x.set(0, 5);
        CHECK.due("set leaves it", told(x), "1@6");
        Due.compile(x, ":;");
        CHECK.due("a good one", told(x), "0@0");
        Due.compile(x, "a".repeat(20));
        Due.compile(x, "exit");
        CHECK.due("letters of an older tape are no part of this one", told(x), "1@4");
        Due.compile(x, "0".repeat(20));
        Due.compile(x, "set r1,5");
        CHECK.due("nor are its digits", told(x), "1@8");
        Due.compile(x, "");
        CHECK.due("an empty tape", told(x), "0@0");

        CHECK.sentence("fault: NONE for another what");
        for (String text : new String[] {"go 64;", "exit;"}) {
            KernelText y = new KernelText();
            Due.compile(y, text);
            for (int what : new int[] {-1, 2, 3, 4, 256, -2, Integer.MIN_VALUE, Integer.MAX_VALUE}) {
                CHECK.due("fault " + what + " of " + text, y.fault(what), -1);
            }
            CHECK.due("fault 0 of " + text, y.fault(0), text.equals("exit;") ? 0 : 3);
            CHECK.due("fault 1 of " + text, y.fault(1), text.equals("exit;") ? 0 : 3);
        }
    }
}
