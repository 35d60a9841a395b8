/** Promise 12: where ways meet. */
public final class MeetTest {
    private static final Due CHECK = new Due();

    public static void main(String[] args) {
        meetIs("if", "@p0 go 2;sync;exit;", 0, 2);
        meetIs("if and else", "@p0 go 3;sync;go 4;sync;exit;", 0, 4);
        meetIs("not of what follows", "@p0 go 3;sync;go 4;sync;sync;exit;", 0, 4);
        meetIs("one way on", "sync;exit;", 0, -1);
        meetIs("two ways that are one", "@p0 go 1;exit;", 0, -1);
        meetIs("a loop", "sync;sync;@p0 go 0;exit;", 2, 3);
        meetIs("a loop on itself", "@p0 go 0;exit;", 0, 1);
        meetIs("within a loop", "@p0 go 2;sync;@p1 go 0;exit;", 0, 2);
        meetIs("around a loop", "@p0 go 3;sync;@p1 go 1;exit;", 0, 3);
        meetIs("two exits", "@p0 go 2;exit;exit;", 0, -1);
        meetIs("a guarded exit goes on", "@p0 go 2;@p1 exit;exit;", 0, 2);
        meetIs("a guarded exit has one way", "@p0 exit;exit;", 0, -1);
        meetIs("off the end both ways", "@p0 go 63;", 0, -1);
        meetIs("off the end one way", "@p0 go 63;sync;exit;", 0, -1);
        meetIs("off the end behind the meet", "@p0 go 2;sync;sync;", 0, 2);
        meetIs("no end", "@p0 go 0;go 0;", 0, -1);
        meetIs("no end on one way", "@p0 go 2;go 1;sync;exit;", 0, 2);
        meetIs("no end on one way, two on the other", "@p0 go 2;go 1;@p1 go 4;exit;exit;", 0, 2);
        meetIs("behind that", "@p0 go 2;go 1;@p1 go 4;exit;exit;", 2, -1);
        meetIs("not reached", "exit;@p0 go 3;sync;exit;", 1, -1);
        meetIs("a call", "@p0 call r1,2;sync;sync;exit;", 0, 2);
        meetIs("a call and back", "@p0 call r1,3;sync;exit;back r1;", 0, -1);
        meetIs("nested, outer", "@p0 go 5;@p1 go 4;sync;go 6;sync;sync;exit;", 0, 6);
        meetIs("nested, inner", "@p0 go 5;@p1 go 4;sync;go 6;sync;sync;exit;", 1, 6);
        meetIs("nested apart, outer", "@p0 go 4;@p1 go 3;sync;sync;exit;", 0, 4);
        meetIs("nested apart, inner", "@p0 go 4;@p1 go 3;sync;sync;exit;", 1, 3);
        meetIs("through k again", "sync;@p0 go 0;sync;exit;", 1, 2);
        meetIs("ways that cross", "@p0 go 3;@p1 go 4;go 5;go 4;go 5;exit;", 0, 5);
        meetIs("behind, at the first place", "@p1 go 4;@p0 go 3;go 0;go 0;exit;", 1, 0);
        meetIs("and from there", "@p1 go 4;@p0 go 3;go 0;go 0;exit;", 0, 4);
        edges();
        CHECK.end();
    }

    private static void meetIs(String what, String text, int k, int want) {
        CHECK.due("meet of " + k + ", " + what, Due.made(text).meet(k), want);
    }

    private static void edges() {
        KernelText x = Due.made("@p0 go 2;sync;exit;");
        for (int k : new int[] {-1, 1, 2, 3, 63, 64, -64, Integer.MIN_VALUE, Integer.MAX_VALUE}) {
            CHECK.due("meet " + k, x.meet(k), -1);
        }
        x.set(1, 255);
        CHECK.due("a long that no text makes is an end", x.meet(0), -1);
        x.set(2, 255);
        x.set(1, 1);
        CHECK.due("and can be met at", x.meet(0), 2);
        KernelText full = Due.made("@p0 go 63;" + "sync;".repeat(62) + "sync;");
        CHECK.due("the last of 64", full.meet(0), 63);
    }
}
