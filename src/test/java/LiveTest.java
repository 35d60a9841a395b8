/** Promise 11: what is live. */
public final class LiveTest {
    private static final Due CHECK = new Due();

    public static void main(String[] args) {
        reads();
        writes();
        guards();
        ways();
        edges();
        CHECK.end();
    }

    /** All that is live ahead of place k, as "r1 p0". */
    private static String liveAt(KernelText x, int k) {
        StringBuilder live = new StringBuilder();
        for (int r = 0; r < 20; r++) {
            if (x.live(k, r)) {
                live.append(live.length() == 0 ? "" : " ").append(r < 16 ? "r" + r : "p" + (r - 16));
            }
        }
        return live.toString();
    }

    private static void liveIs(String text, String want) {
        CHECK.due("live ahead of " + text, liveAt(Due.made(text), 0), want);
    }

    private static void reads() {
        liveIs("exit;", "");
        liveIs("sync;", "");
        liveIs("word 4352;", "");
        liveIs("set r1,5;", "");
        liveIs("tid r1;", "");
        liveIs("go 5;", "");
        liveIs("call r1,5;", "");
        liveIs("back r7;", "r7");
        for (String name : new String[] {"add", "sub", "mul", "div", "rem", "and", "or", "xor", "shl", "shr", "sar",
            "min", "max", "high"}) {
            liveIs(name + " r1,r2,r3;", "r2 r3");
        }
        for (String name : new String[] {"addn", "muln", "andn", "swap"}) {
            liveIs(name + " r1,r2,3;", "r2");
        }
        liveIs("pick r1,r2,r15,p3;", "r2 r15 p3");
        liveIs("pick r1,r2,r15,p0;", "r2 r15 p0");
        liveIs("less p1,r2,r3;", "r2 r3");
        liveIs("same p1,r2,r3;", "r2 r3");
        liveIs("lessn p1,r2,3;", "r2");
        liveIs("samen p1,r2,3;", "r2");
        liveIs("both p1,p2,p3;", "p2 p3");
        liveIs("either p1,p2,p3;", "p2 p3");
        for (String name : new String[] {"not", "any", "all"}) {
            liveIs(name + " p1,p2;", "p2");
        }
        liveIs("count r1,p2;", "p2");
        liveIs("load r1,(r2+3);", "r2");
        liveIs("loads r1,(r2+3);", "r2");
        liveIs("store (r2+4),r3;", "r2 r3");
        liveIs("stores (r2+4),r3;", "r2 r3");
        for (String name : new String[] {"atadd", "atmax", "atswap", "sadd", "sswap"}) {
            liveIs(name + " r1,(r2+4),r3;", "r2 r3");
        }
        liveIs("atcas r1,(r2+4),r3;", "r1 r2 r3");
        liveIs("add r1,r1,r1;", "r1");
    }

    private static void writes() {
        String readAll = "store (r1+0),r1;";
        String[] writers = {"set r1,5;", "tid r1;", "wide r1;", "add r1,r2,r2;", "high r1,r2,r2;", "addn r1,r2,1;",
            "andn r1,r2,1;", "swap r1,r2,1;", "pick r1,r2,r2,p1;", "call r1,1;", "load r1,(r2+0);",
            "loads r1,(r2+0);", "atadd r1,(r2+0),r2;", "atswap r1,(r2+0),r2;", "sadd r1,(r2+0),r2;",
            "sswap r1,(r2+0),r2;", "count r1,p1;"};
        for (String writer : writers) {
            CHECK.due("r1 ahead of " + writer, Due.made(writer + readAll).live(0, 1), false);
            CHECK.due("r1 behind " + writer, Due.made(writer + readAll).live(1, 1), true);
            CHECK.due("r1 ahead of @p1 " + writer, Due.made("@p1 " + writer + readAll).live(0, 1), true);
        }
        CHECK.due("atcas reads it", Due.made("atcas r1,(r2+0),r2;" + readAll).live(0, 1), true);
        for (String other : new String[] {"sync;", "store (r2+0),r3;", "less p1,r2,r2;", "back r2;", "not p1,p2;"}) {
            boolean goesOn = !other.startsWith("back");
            CHECK.due("r1 ahead of " + other, Due.made(other + readAll).live(0, 1), goesOn);
        }
        String[] setters = {"less p1,r2,r2;", "same p1,r2,r2;", "lessn p1,r2,1;", "samen p1,r2,1;", "both p1,p2,p2;",
            "either p1,p2,p2;", "not p1,p2;", "any p1,p2;", "all p1,p2;"};
        for (String setter : setters) {
            CHECK.due("p1 ahead of " + setter, Due.made(setter + "@p1 exit;").live(0, 17), false);
            CHECK.due("p1 ahead of @p2 " + setter, Due.made("@p2 " + setter + "@p1 exit;").live(0, 17), true);
            CHECK.due("r1 ahead of " + setter, Due.made(setter + readAll).live(0, 1), true);
        }
        CHECK.due("a register is no predicate", Due.made("set r1,5;@p1 exit;").live(0, 17), true);
    }

    private static void guards() {
        for (int p = 0; p < 4; p++) {
            liveIs("@p" + p + " exit;", "p" + p);
            liveIs("@!p" + p + " set r1,1;", "p" + p);
        }
        liveIs("@p1 not p1,p2;", "p1 p2");
        liveIs("less p1,r1,r2;@p1 set r3,5;back r3;", "r1 r2 r3");
    }

    private static void ways() {
        liveIs("@p0 go 2;set r1,5;back r1;", "r1 p0");
        liveIs("go 2;back r1;back r2;", "r2");
        liveIs("@p0 exit;back r1;", "r1 p0");
        liveIs("exit;back r1;", "");
        liveIs("set r1,5;go 0;", "");
        liveIs("addn r1,r1,1;go 0;", "r1");
        liveIs("go 2;back r3;addn r2,r1,1;go 4;@p1 go 1;set r1,2;go 2;", "r1 r3 p1");
        KernelText x = Due.made("exit;add r1,r2,r3;back r1;");
        CHECK.due("live where nothing reaches", liveAt(x, 1), "r2 r3");
        x.set(1, Due.bits(4, 1, 2, 3, 8, 1));
        CHECK.due("a long that no text makes", liveAt(x, 1), "");
    }

    private static void edges() {
        KernelText x = Due.made("back r0;");
        for (int r : new int[] {-1, 20, 21, 32, Integer.MIN_VALUE, Integer.MAX_VALUE}) {
            CHECK.due("live 0 " + r, x.live(0, r), false);
        }
        for (int k : new int[] {-1, 1, 63, 64, -64, Integer.MIN_VALUE, Integer.MAX_VALUE}) {
            CHECK.due("live " + k + " 0", x.live(k, 0), false);
        }
        CHECK.due("live 0 0", x.live(0, 0), true);
    }
}
