/** Promise 7: the texts of longs. */
public final class LetterTest {
    private static final Due CHECK = new Due();

    public static void main(String[] args) {
        textsComeAgain();
        unmade();
        edges();
        CHECK.end();
    }

    private static void textIs(long w, String want) {
        KernelText x = new KernelText();
        x.set(0, w);
        CHECK.due("text of " + w, Due.spelled(x, 0), want);
        CHECK.due("unmade " + w, x.total(3), want.equals("?;") ? 1 : 0);
    }

    private static void textsComeAgain() {
        String[] texts = {"exit;", "sync;", "set r15,-2147483648;", "tid r0;", "bid r1;", "size r2;", "grid r3;",
            "lane r4;", "warp r5;", "wide r6;", "add r1,r2,r3;", "sub r1,r2,r3;", "mul r1,r2,r3;", "div r1,r2,r3;",
            "rem r1,r2,r3;", "and r1,r2,r3;", "or r1,r2,r3;", "xor r1,r2,r3;", "shl r1,r2,r3;", "shr r1,r2,r3;",
            "sar r1,r2,r3;", "min r1,r2,r3;", "max r1,r2,r3;", "high r10,r11,r12;", "addn r1,r2,2147483647;",
            "muln r1,r2,-7;", "andn r1,r2,0;", "swap r1,r2,3;", "pick r1,r2,r3,p3;", "less p3,r14,r15;",
            "same p1,r2,r3;", "lessn p1,r2,-1;", "samen p1,r2,10;", "both p1,p2,p3;", "either p3,p2,p1;",
            "not p1,p2;", "any p1,p2;", "all p3,p0;", "count r15,p3;", "go 0;", "go 63;", "call r9,63;",
            "back r15;", "load r1,(r2+-3);", "loads r1,(r2+3);", "store (r1+0),r2;", "stores (r15+-9),r14;",
            "atadd r1,(r2+3),r4;", "atmax r1,(r2+3),r4;", "atswap r15,(r15+-2147483648),r15;",
            "atcas r1,(r2+3),r4;", "sadd r1,(r2+3),r4;", "sswap r1,(r2+3),r4;", "word 5;", "word -2147483648;"};
        for (String text : texts) {
            for (String guard : new String[] {"", "@p0 ", "@p3 ", "@!p0 ", "@!p3 "}) {
                CHECK.due("text", Due.spelled(Due.made(guard + text), 0), guard + text);
            }
        }
        CHECK.due("word 0 is exit", Due.spelled(Due.made("word 0;"), 0), "exit;");
        CHECK.due("guarded too", Due.spelled(Due.made("@p1 word 0;"), 0), "@p1 exit;");
        CHECK.due("blanks go", Due.spelled(Due.made(" @ ! p1 load r1 , ( r2 + - 3 ) ;"), 0), "@!p1 load r1,(r2+-3);");
    }

    private static void unmade() {
        for (int bit = 24; bit < 32; bit++) {
            textIs(1L << bit, "?;");
            textIs(1L << bit | Due.bits(4, 1, 2, 3, 0, 0), "?;");
        }
        for (int g = 0; g < 16; g++) {
            String guard = g == 0 ? "" : "@" + (g < 12 ? "p" : "!p") + g % 4 + " ";
            textIs(Due.bits(1, 0, 0, 0, g, 0), g > 0 && g < 8 ? "?;" : guard + "sync;");
        }
        for (int op : new int[] {22, 29, 37, 39, 43, 49, 60, 69, 74, 128, 255}) {
            textIs(op, "?;");
        }
        textIs(Due.bits(0, 1, 0, 0, 0, 5), "?;");
        textIs(Due.bits(0, 0, 1, 0, 0, 0), "?;");
        textIs(Due.bits(1, 0, 0, 0, 0, 1), "?;");
        textIs(Due.bits(2, 1, 1, 0, 0, 5), "?;");
        textIs(Due.bits(2, 1, 0, 1, 0, 5), "?;");
        textIs(Due.bits(3, 1, 0, 0, 0, 6), "wide r1;");
        textIs(Due.bits(3, 1, 0, 0, 0, 7), "?;");
        textIs(Due.bits(3, 1, 0, 0, 0, -1), "?;");
        textIs(Due.bits(4, 1, 2, 3, 0, 1), "?;");
        textIs(Due.bits(18, 1, 2, 3, 0, 1), "?;");
        textIs(Due.bits(21, 1, 2, 3, 0, 4), "?;");
        textIs(Due.bits(21, 1, 2, 3, 0, -1), "?;");
        textIs(Due.bits(30, 4, 2, 3, 0, 0), "?;");
        textIs(Due.bits(34, 1, 4, 3, 0, 0), "?;");
        textIs(Due.bits(34, 1, 3, 4, 0, 0), "?;");
        textIs(Due.bits(36, 1, 3, 1, 0, 0), "?;");
        textIs(Due.bits(72, 15, 4, 0, 0, 0), "?;");
        textIs(Due.bits(40, 0, 0, 0, 0, 64), "?;");
        textIs(Due.bits(40, 0, 0, 0, 0, -1), "?;");
        textIs(Due.bits(40, 1, 0, 0, 0, 1), "?;");
        textIs(Due.bits(41, 1, 0, 0, 0, 64), "?;");
        textIs(Due.bits(42, 1, 1, 0, 0, 0), "?;");
        textIs(Due.bits(50, 1, 1, 1, 0, 0), "?;");
        textIs(Due.bits(51, 1, 1, 1, 0, 0), "?;");
        textIs(-1, "?;");
        textIs(Long.MIN_VALUE, "word -2147483648;");
    }

    private static void edges() {
        KernelText x = Due.made("exit;");
        CHECK.due("first", x.letter(0, 0), 'e');
        CHECK.due("last", x.letter(0, 4), ';');
        for (int i : new int[] {-1, 5, 6, Integer.MIN_VALUE, Integer.MAX_VALUE}) {
            CHECK.due("letter 0 " + i, x.letter(0, i), -1);
        }
        for (int k : new int[] {-1, 1, 63, 64, Integer.MIN_VALUE, Integer.MAX_VALUE}) {
            CHECK.due("letter " + k + " 0", x.letter(k, 0), -1);
        }
        CHECK.due("asked again", x.letter(0, 1), 'x');
    }
}
