/** Terms: the tape and its tokens. */
public final class TokenTest {
    private static final Due CHECK = new Due();
    private static final String SIGNS = ";:,@!=-()+";

    public static void main(String[] args) {
        tape();
        blanks();
        names();
        numbers();
        signs();
        CHECK.end();
    }

    private static void tape() {
        CHECK.sentence("THE TAPE (at most 700 characters, 32 .. 126)");
        CHECK.fault(";".repeat(700), "0@0");
        CHECK.fault(";".repeat(699) + "#", "1@699");
        CHECK.fault(" ".repeat(695) + "exit;", "0@0");
        CHECK.fault("exit;" + " ".repeat(695), "0@0");
        CHECK.fault(" ".repeat(696) + "exit", "1@700");
        CHECK.fault(" ".repeat(699) + "~", "1@699");
        KernelText x = Due.made(" ".repeat(695) + "sync;");
        CHECK.due("the last five of 700 characters", Due.spelled(x, 0), "sync;");
        Due.type(x, ";".repeat(700));
        CHECK.due("the 701st", x.type(';', 1), false);
        CHECK.due("31", new KernelText().type(31, 1), false);
        CHECK.due("32", new KernelText().type(32, 1), true);
        CHECK.due("126", new KernelText().type(126, 1), true);
        CHECK.due("127", new KernelText().type(127, 1), false);
    }

    private static void blanks() {
        CHECK.sentence("Blanks part TOKENS");
        CHECK.fault("ex it;", "1@0");
        CHECK.fault("exit ;", "0@0");
        CHECK.fault("tidr1;", "1@0");
        CHECK.fault("tid r1;", "0@0");
        CHECK.fault("tid r 1;", "1@4");
        CHECK.fault("set r1,1 2;", "1@9");
        CHECK.fault("set r1,12;", "0@0");
        CHECK.fault("go a b;ab:;", "1@5");

        CHECK.sentence("Blanks .. may stand anywhere between them");
        CHECK.makes("l:@!p1 load r1,(r2+-3);", Due.bits(50, 1, 2, 0, 13, -3));
        CHECK.makes("  l  :  @  !  p1  load  r1  ,  (  r2  +  -  3  )  ;  ", Due.bits(50, 1, 2, 0, 13, -3));
        CHECK.makes("@p0 store(r1+0),r2;", Due.bits(51, 0, 1, 2, 8, 0));
        CHECK.makes(" x = - 7 ; set r1 , x ; ", Due.bits(2, 1, 0, 0, 0, -7));
        CHECK.due("blanks alone", Due.compile(new KernelText(), "     "), 0);
    }

    private static void names() {
        CHECK.sentence("NAMES (a small letter, then small letters, digits; at most 8)");
        for (String name : new String[] {"a", "z", "a0", "z9", "abcdefgh", "a1234567", "zzzzzzzz", "a9z0b8y1"}) {
            CHECK.fault(name + ":;", "0@0");
            CHECK.due("name " + name, Due.nameOf(Due.made(name + "=3;"), name), "3");
        }
        for (String none : new String[] {"abcdefghi", "a12345678", "abcdefgh1", "aaaaaaaaaaaaaaaaaaaa", "A", "Ab"}) {
            CHECK.fault(none + ":;", "1@0");
            CHECK.fault(none + "=3;", "1@0");
            CHECK.fault("go " + none + ";", "1@3");
        }
        CHECK.fault("1a:;", "1@0");
        CHECK.fault("aB:;", "1@0");
        CHECK.fault("a`:;", "1@0");
        CHECK.fault("a{:;", "1@0");
        CHECK.fault("a/:;", "1@0");
        CHECK.fault("a_b:;", "1@0");
        CHECK.fault("exitA;", "1@4");
        CHECK.fault("go abcdefgh;abcdefgh:;", "0@0");
        CHECK.fault("go abcdefghi;abcdefgh:;", "1@3");
        CHECK.fault("abcdefgh:abcdefg:bcdefgh:;", "0@0");
    }

    private static void numbers() {
        CHECK.sentence("NUMBERS (1 to 10 digits");
        CHECK.makes("set r1,0;", Due.bits(2, 1, 0, 0, 0, 0));
        CHECK.makes("set r1,9;", Due.bits(2, 1, 0, 0, 0, 9));
        CHECK.makes("set r1,0000000012;", Due.bits(2, 1, 0, 0, 0, 12));
        CHECK.makes("set r1,0000000000;", Due.bits(2, 1, 0, 0, 0, 0));
        CHECK.fault("set r1,00000000012;", "1@7");
        CHECK.fault("set r1,00000000000;", "1@7");
        CHECK.fault("set r1,;", "1@7");
        CHECK.fault("set r1,-12345678901;", "1@8");
        CHECK.fault("x=00000000001;", "1@2");
        CHECK.fault("set r1," + "9".repeat(30) + ";", "1@7");
        CHECK.fault("set r1," + "0".repeat(692) + ";", "1@7");

        CHECK.sentence("NUMBERS (.. up to 2147483648)");
        CHECK.makes("set r1,2147483647;", Due.bits(2, 1, 0, 0, 0, Integer.MAX_VALUE));
        CHECK.makes("set r1,-2147483648;", Due.bits(2, 1, 0, 0, 0, Integer.MIN_VALUE));
        CHECK.fault("set r1,2147483648;", "3@7");
        CHECK.fault("set r1,2147483649;", "1@7");
        CHECK.fault("set r1,-2147483649;", "1@8");
        CHECK.fault("set r1,4294967296;", "1@7");
        CHECK.fault("set r1,4294967297;", "1@7");
        CHECK.fault("set r1,9999999999;", "1@7");
        CHECK.fault("go 4294967296;", "1@3");
    }

    private static void signs() {
        CHECK.sentence("SIGNS ; : , @ ! = - ( ) +");
        for (char c = 33; c < 127; c++) {
            boolean letter = c >= 'a' && c <= 'z' || c >= '0' && c <= '9';
            CHECK.fault("exit" + c, c == ';' ? "0@0" : letter ? "1@0" : c == ':' ? "1@5" : c == '=' ? "1@5" : "1@4");
            if (!letter && SIGNS.indexOf(c) < 0) {
                CHECK.fault(c + ";", "1@0");
                CHECK.fault("go " + c + ";", "1@3");
                CHECK.fault("add r1" + c + "r2,r3;", "1@6");
                CHECK.fault("@" + c + "p0 exit;", "1@1");
            }
        }
        CHECK.fault("a:x=-1;", "1@3");
        CHECK.fault("a:;x=-1;@!p0 load r1,(r2+x);", "0@0");
        CHECK.fault("go 5x;", "1@4");
    }
}
