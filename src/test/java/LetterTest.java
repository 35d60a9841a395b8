/** Promise 7, and what Terms say of the text of a long. */
public final class LetterTest {
    private static final Due CHECK = new Due();

    /** A text of every word. */
    private static final String[] TEXTS = {"exit;", "sync;", "set r15,-2147483648;", "tid r0;", "bid r1;", "size r2;",
        "grid r3;", "lane r4;", "warp r5;", "wide r6;", "add r1,r2,r3;", "sub r1,r2,r3;", "mul r1,r2,r3;",
        "div r1,r2,r3;", "rem r1,r2,r3;", "and r1,r2,r3;", "or r1,r2,r3;", "xor r1,r2,r3;", "shl r1,r2,r3;",
        "shr r1,r2,r3;", "sar r1,r2,r3;", "min r1,r2,r3;", "max r1,r2,r3;", "high r10,r11,r12;",
        "addn r1,r2,2147483647;", "muln r1,r2,-7;", "andn r1,r2,0;", "swap r1,r2,3;", "pick r1,r2,r3,p3;",
        "less p3,r14,r15;", "same p1,r2,r3;", "lessn p1,r2,-1;", "samen p1,r2,10;", "both p1,p2,p3;",
        "either p3,p2,p1;", "not p1,p2;", "any p1,p2;", "all p3,p0;", "count r15,p3;", "go 0;", "go 63;",
        "call r9,63;", "back r15;", "load r1,(r2+-3);", "loads r1,(r2+3);", "store (r1+0),r2;",
        "stores (r15+-9),r14;", "atadd r1,(r2+3),r4;", "atmax r1,(r2+3),r4;",
        "atswap r15,(r15+-2147483648),r15;", "atcas r1,(r2+3),r4;", "sadd r1,(r2+3),r4;", "sswap r1,(r2+3),r4;",
        "word 5;", "word -2147483648;"};

    public static void main(String[] args) {
        textsComeAgain();
        numbers();
        unmadeByBits();
        unmadeByGuards();
        unmadeByCodes();
        unmadeByParts();
        codeZero();
        edges();
        CHECK.end();
    }

    private static void textIs(long w, String want) {
        KernelText x = Due.holding(w);
        CHECK.due("text of " + w, Due.spelled(x, 0), want);
        CHECK.due("total(3) of " + w, x.total(3), want.equals("?;") ? 1 : 0);
    }

    private static void textsComeAgain() {
        CHECK.sentence("THE TEXT of a long: its GUARD (a blank behind it), its NAME, a blank if parts follow, its parts as above");
        for (String text : TEXTS) {
            for (String guard : new String[] {"", "@p0 ", "@p3 ", "@!p0 ", "@!p3 "}) {
                CHECK.due("text", Due.spelled(Due.made(guard + text), 0), guard + text);
            }
        }

        CHECK.sentence("its parts .. without blanks, .. at the end ;");
        CHECK.due("blanks go", Due.spelled(Due.made(" @ ! p1 load r1 , ( r2 + - 3 ) ;"), 0), "@!p1 load r1,(r2+-3);");
        CHECK.due("of exit", Due.spelled(Due.made("  exit  ;"), 0), "exit;");
        CHECK.due("of pick", Due.spelled(Due.made("pick r1 , r2 , r3 , p0 ;"), 0), "pick r1,r2,r3,p0;");
    }

    private static void numbers() {
        CHECK.sentence("r and p with their numbers, N as a number");
        textIs(Due.bits(4, 0, 9, 10, 0, 0), "add r0,r9,r10;");
        textIs(Due.bits(4, 15, 11, 1, 0, 0), "add r15,r11,r1;");
        textIs(Due.bits(34, 0, 3, 1, 0, 0), "both p0,p3,p1;");
        for (int n : new int[] {0, 1, -1, 9, 10, -10, 99, 1000000000, Integer.MAX_VALUE, Integer.MIN_VALUE}) {
            textIs(Due.bits(2, 1, 0, 0, 0, n), "set r1," + n + ";");
            textIs(Due.bits(51, 0, 1, 2, 0, n), "store (r1+" + n + "),r2;");
        }
        CHECK.due("a name as what it is", Due.spelled(Due.made("x=-7;set r1,x;"), 0), "set r1,-7;");
        CHECK.due("a label as its place", Due.spelled(Due.made("go l;sync;l:;"), 0), "go 2;");
    }

    private static void unmadeByBits() {
        CHECK.sentence("A WORD is a long: .. bits 24 .. 31 are 0");
        for (String text : TEXTS) {
            long w = Due.made(text).word(0);
            for (int bit = 24; bit < 32; bit++) {
                textIs(w | 1L << bit, "?;");
            }
            textIs(w, text);
        }
    }

    private static void unmadeByGuards() {
        CHECK.sentence("GUARD @pk: g = 8 + k, with ! 12 + k; else 0");
        for (int g = 0; g < 16; g++) {
            String guard = g == 0 ? "" : "@" + (g < 12 ? "p" : "!p") + g % 4 + " ";
            textIs(Due.bits(1, 0, 0, 0, g, 0), g > 0 && g < 8 ? "?;" : guard + "sync;");
            textIs(Due.bits(40, 0, 0, 0, g, 5), g > 0 && g < 8 ? "?;" : guard + "go 5;");
        }
    }

    private static void unmadeByCodes() {
        CHECK.sentence("A long that no TEXT makes: ?; (op)");
        for (int op = 0; op < 256; op++) {
            boolean known = op <= 21 || op >= 30 && op <= 36 || op >= 40 && op <= 42 || op >= 50 && op <= 59
                || op >= 70 && op <= 73;
            CHECK.due("op " + op, Due.holding(op).total(3), known ? 0 : 1);
            CHECK.due("text of op " + op, Due.spelled(Due.holding(op), 0).equals("?;"), !known);
        }
        for (int n = -1; n < 9; n++) {
            CHECK.due("op 3, n " + n, Due.holding(Due.bits(3, 1, 0, 0, 0, n)).total(3), n >= 0 && n <= 6 ? 0 : 1);
        }
    }

    private static void unmadeByParts() {
        CHECK.sentence("A long that no TEXT makes: ?; (What is not told is 0)");
        textIs(Due.bits(0, 1, 0, 0, 0, 5), "?;");
        textIs(Due.bits(0, 0, 1, 0, 0, 0), "?;");
        textIs(Due.bits(0, 0, 0, 1, 0, 0), "?;");
        textIs(Due.bits(1, 1, 0, 0, 0, 0), "?;");
        textIs(Due.bits(1, 0, 0, 0, 0, 1), "?;");
        textIs(Due.bits(1, 0, 0, 0, 0, 0), "sync;");
        textIs(Due.bits(2, 1, 1, 0, 0, 5), "?;");
        textIs(Due.bits(2, 1, 0, 1, 0, 5), "?;");
        textIs(Due.bits(2, 1, 0, 0, 0, 5), "set r1,5;");
        textIs(Due.bits(3, 1, 1, 0, 0, 0), "?;");
        textIs(Due.bits(3, 1, 0, 1, 0, 0), "?;");
        textIs(Due.bits(4, 1, 2, 3, 0, 1), "?;");
        textIs(Due.bits(17, 1, 2, 3, 0, -1), "?;");
        textIs(Due.bits(18, 1, 2, 3, 0, 1), "?;");
        textIs(Due.bits(18, 1, 2, 0, 0, 1), "addn r1,r2,1;");
        textIs(Due.bits(73, 1, 2, 3, 0, 1), "?;");
        textIs(Due.bits(30, 1, 2, 3, 0, 1), "?;");
        textIs(Due.bits(32, 1, 2, 3, 0, 1), "?;");
        textIs(Due.bits(34, 1, 2, 3, 0, 1), "?;");
        textIs(Due.bits(36, 1, 3, 1, 0, 0), "?;");
        textIs(Due.bits(36, 1, 3, 0, 0, 1), "?;");
        textIs(Due.bits(70, 1, 3, 1, 0, 0), "?;");
        textIs(Due.bits(72, 1, 3, 1, 0, 0), "?;");
        textIs(Due.bits(40, 1, 0, 0, 0, 1), "?;");
        textIs(Due.bits(40, 0, 1, 0, 0, 1), "?;");
        textIs(Due.bits(41, 1, 1, 0, 0, 1), "?;");
        textIs(Due.bits(42, 1, 1, 0, 0, 0), "?;");
        textIs(Due.bits(42, 0, 1, 1, 0, 0), "?;");
        textIs(Due.bits(42, 0, 1, 0, 0, 1), "?;");
        textIs(Due.bits(50, 1, 1, 1, 0, 0), "?;");
        textIs(Due.bits(51, 1, 1, 1, 0, 0), "?;");
        textIs(Due.bits(54, 1, 1, 1, 0, 0), "atadd r1,(r1+0),r1;");
        for (int op : new int[] {1, 4, 10, 17, 30, 31, 34, 35, 36, 42, 70, 71, 72}) {
            unmadeFromBit(op, 32);
        }
        unmadeFromBit(21, 34);
        unmadeFromBit(40, 38);
        unmadeFromBit(41, 38);

        CHECK.sentence("A long that no TEXT makes: ?; (p: p0 .. p3)");
        textIs(Due.bits(21, 1, 2, 3, 0, 3), "pick r1,r2,r3,p3;");
        textIs(Due.bits(21, 1, 2, 3, 0, 4), "?;");
        textIs(Due.bits(21, 1, 2, 3, 0, -1), "?;");
        for (int op : new int[] {30, 31, 32, 33, 34, 35, 36, 70, 71}) {
            CHECK.due("d 3 of op " + op, Due.holding(Due.bits(op, 3, 0, 0, 0, 0)).total(3), 0);
            CHECK.due("d 4 of op " + op, Due.holding(Due.bits(op, 4, 0, 0, 0, 0)).total(3), 1);
        }
        for (int op : new int[] {34, 35, 36, 70, 71, 72}) {
            CHECK.due("a 3 of op " + op, Due.holding(Due.bits(op, 0, 3, 0, 0, 0)).total(3), 0);
            CHECK.due("a 4 of op " + op, Due.holding(Due.bits(op, 0, 4, 0, 0, 0)).total(3), 1);
        }
        for (int op : new int[] {34, 35}) {
            CHECK.due("b 3 of op " + op, Due.holding(Due.bits(op, 0, 0, 3, 0, 0)).total(3), 0);
            CHECK.due("b 4 of op " + op, Due.holding(Due.bits(op, 0, 0, 4, 0, 0)).total(3), 1);
        }
        textIs(Due.bits(72, 15, 3, 0, 0, 0), "count r15,p3;");
        textIs(Due.bits(30, 3, 15, 15, 0, 0), "less p3,r15,r15;");

        CHECK.sentence("A long that no TEXT makes: ?; (of go, call below 0 or above 63)");
        for (int op : new int[] {40, 41}) {
            for (int n : new int[] {0, 63, 64, -1, Integer.MIN_VALUE, Integer.MAX_VALUE}) {
                String text = (op == 40 ? "go " : "call r0,") + n + ";";
                textIs(Due.bits(op, 0, 0, 0, 0, n), n >= 0 && n <= 63 ? text : "?;");
            }
        }
    }

    /** That a word with n 0 is made, and no word with one of n's bits from this one on. */
    private static void unmadeFromBit(int op, int first) {
        CHECK.due("op " + op, Due.holding(op).total(3), 0);
        for (int bit = first; bit < 64; bit++) {
            CHECK.due("op " + op + " with bit " + bit, Due.holding(op | 1L << bit).total(3), 1);
        }
    }

    private static void codeZero() {
        CHECK.sentence("(of one with op 0: exit if n is 0, else word)");
        textIs(0, "exit;");
        textIs(1L << 32, "word 1;");
        textIs(-1L << 32, "word -1;");
        textIs(Long.MIN_VALUE, "word -2147483648;");
        textIs(Due.bits(0, 0, 0, 0, 9, 0), "@p1 exit;");
        textIs(Due.bits(0, 0, 0, 0, 9, 3), "@p1 word 3;");
        textIs(Due.bits(0, 0, 0, 0, 1, 0), "?;");
        CHECK.due("word 0", Due.spelled(Due.made("word 0;"), 0), "exit;");
        CHECK.due("guarded", Due.spelled(Due.made("@!p1 word 0;"), 0), "@!p1 exit;");
    }

    private static void edges() {
        CHECK.sentence("Character i of the TEXT of WORD k; NONE if there is none such");
        KernelText x = Due.made("exit;");
        CHECK.due("first", x.letter(0, 0), 'e');
        CHECK.due("last", x.letter(0, 4), ';');
        CHECK.due("asked again", x.letter(0, 1), 'x');
        for (int i : new int[] {-1, 5, 6, 256, Integer.MIN_VALUE, Integer.MAX_VALUE}) {
            CHECK.due("letter 0 " + i, x.letter(0, i), -1);
        }
        for (int k : new int[] {-1, 1, 63, 64, 65, Integer.MIN_VALUE, Integer.MAX_VALUE}) {
            CHECK.due("letter " + k + " 0", x.letter(k, 0), -1);
        }
        x.set(0, -1);
        CHECK.due("?", x.letter(0, 0), '?');
        CHECK.due("; behind it", x.letter(0, 1), ';');
        CHECK.due("behind that", x.letter(0, 2), -1);
        KernelText full = Due.made("tid r1;".repeat(63) + "atswap r15,(r15+-2147483648),r15;");
        CHECK.due("the last of 64", Due.spelled(full, 63), "atswap r15,(r15+-2147483648),r15;");
        CHECK.due("behind it", full.letter(64, 0), -1);
        Due.compile(full, "sync;");
        CHECK.due("one of an older kernel", full.letter(1, 0), -1);
    }
}
