/** Promise 11, and what Terms say of reading, writing and live. */
public final class LiveTest {
    private static final Due CHECK = new Due();

    public static void main(String[] args) {
        guards();
        readsA();
        readsB();
        readsD();
        readsPredicates();
        writes();
        writesPredicates();
        ways();
        overwriting();
        unmade();
        noneSuch();
        CHECK.end();
    }

    private static void liveIs(String text, String want) {
        CHECK.due("live ahead of " + text, Due.liveAt(Due.made(text), 0), want);
    }

    private static void guards() {
        CHECK.sentence("A WORD reads: its GUARD's p");
        for (int p = 0; p < 4; p++) {
            liveIs("@p" + p + " exit;", "p" + p);
            liveIs("@!p" + p + " set r1,1;", "p" + p);
        }
        liveIs("exit;", "");
        liveIs("@p1 not p1,p2;", "p1 p2");
        liveIs("@p3 go 5;", "p3");
    }

    private static void readsA() {
        CHECK.sentence("by the list a (add to pick, less to samen, load to sswap, swap, back)");
        for (String name : new String[] {"addn", "muln", "andn", "swap"}) {
            liveIs(name + " r1,r2,3;", "r2");
        }
        liveIs("lessn p1,r2,3;", "r2");
        liveIs("samen p1,r2,3;", "r2");
        liveIs("load r1,(r2+3);", "r2");
        liveIs("loads r1,(r2+3);", "r2");
        liveIs("back r7;", "r7");
        liveIs("back r0;", "r0");
        liveIs("back r15;", "r15");
        for (String other : new String[] {"exit;", "sync;", "word 4352;", "set r1,5;", "tid r1;", "wide r1;", "go 5;",
            "call r1,5;"}) {
            liveIs(other, "");
        }
    }

    private static void readsB() {
        CHECK.sentence("b (add to high, pick, less, same, store, stores, at.. and s..)");
        for (String name : new String[] {"add", "sub", "mul", "div", "rem", "and", "or", "xor", "shl", "shr", "sar",
            "min", "max", "high"}) {
            liveIs(name + " r1,r2,r3;", "r2 r3");
        }
        liveIs("add r1,r1,r1;", "r1");
        liveIs("less p1,r2,r3;", "r2 r3");
        liveIs("same p1,r2,r3;", "r2 r3");
        liveIs("store (r2+4),r3;", "r2 r3");
        liveIs("stores (r2+4),r3;", "r2 r3");
        for (String name : new String[] {"atadd", "atmax", "atswap", "sadd", "sswap"}) {
            liveIs(name + " r1,(r2+4),r3;", "r2 r3");
        }
    }

    private static void readsD() {
        CHECK.sentence("d (atcas alone)");
        liveIs("atcas r1,(r2+4),r3;", "r1 r2 r3");
        liveIs("atswap r1,(r2+4),r3;", "r2 r3");
        liveIs("sadd r1,(r2+4),r3;", "r2 r3");
    }

    private static void readsPredicates() {
        CHECK.sentence("of predicates pick's p, a and b of both, either, a of not, any, all, count");
        liveIs("pick r1,r2,r15,p3;", "r2 r15 p3");
        liveIs("pick r1,r2,r15,p0;", "r2 r15 p0");
        liveIs("both p1,p2,p3;", "p2 p3");
        liveIs("either p1,p2,p3;", "p2 p3");
        liveIs("both p0,p0,p0;", "p0");
        for (String name : new String[] {"not", "any", "all"}) {
            liveIs(name + " p1,p2;", "p2");
        }
        liveIs("count r1,p2;", "p2");
        liveIs("count r2,p0;", "p0");
    }

    private static void writes() {
        CHECK.sentence("It writes d (set to pick, tid to wide, call, load, loads, at.., s.., swap, count)");
        String readAll = "store (r1+0),r1;";
        String[] three = {"add", "sub", "mul", "div", "rem", "and", "or", "xor", "shl", "shr", "sar", "min", "max", "high"};
        for (String name : three) {
            writesRegister(name + " r1,r2,r2;", readAll);
        }
        for (String name : new String[] {"tid", "bid", "size", "grid", "lane", "warp", "wide"}) {
            writesRegister(name + " r1;", readAll);
        }
        for (String name : new String[] {"addn", "muln", "andn", "swap"}) {
            writesRegister(name + " r1,r2,1;", readAll);
        }
        for (String name : new String[] {"atadd", "atmax", "atswap", "sadd", "sswap"}) {
            writesRegister(name + " r1,(r2+0),r2;", readAll);
        }
        for (String text : new String[] {"set r1,5;", "pick r1,r2,r2,p1;", "call r1,1;", "load r1,(r2+0);",
            "loads r1,(r2+0);", "count r1,p1;"}) {
            writesRegister(text, readAll);
        }
        String behindCas = "sync;atcas r1,(r2+0),r2;" + readAll;
        CHECK.due("atcas reads it first", Due.made(behindCas).live(0, 1), true);
        for (String other : new String[] {"sync;", "store (r2+0),r3;", "stores (r2+0),r3;", "less p1,r2,r2;",
            "lessn p1,r2,1;", "not p1,p2;", "any p1,p2;", "go 1;"}) {
            CHECK.due("r1 ahead of " + other, Due.made(other + readAll).live(0, 1), true);
        }
        for (String other : new String[] {"sync;", "store (r2+0),r3;", "less p0,r2,r2;", "not p0,p2;", "go 1;", "@p0 sync;",
            "@p0 set r1,5;", "@p0 go 1;", "@p0 exit;", "@p0 word 1;", "@p0 back r1;"}) {
            CHECK.due("r0 ahead of " + other, Due.made(other + "back r0;").live(0, 0), true);
        }
        CHECK.due("r1 ahead of back", Due.made("back r2;" + readAll).live(0, 1), false);
    }

    private static void writesRegister(String writer, String reader) {
        CHECK.due("r1 ahead of " + writer, Due.made(writer + reader).live(0, 1), false);
        CHECK.due("r1 behind " + writer, Due.made(writer + reader).live(1, 1), true);
        CHECK.due("p1 ahead of " + writer, Due.made(writer + "@p1 exit;").live(0, 17), true);
    }

    private static void writesPredicates() {
        CHECK.sentence("p d (less to not, any, all)");
        String[] setters = {"less p1,r2,r2;", "same p1,r2,r2;", "lessn p1,r2,1;", "samen p1,r2,1;", "both p1,p2,p2;",
            "either p1,p2,p2;", "not p1,p2;", "any p1,p2;", "all p1,p2;"};
        for (String setter : setters) {
            CHECK.due("p1 ahead of " + setter, Due.made(setter + "@p1 exit;").live(0, 17), false);
            CHECK.due("p0 ahead of " + setter, Due.made(setter + "@p0 exit;").live(0, 16), true);
            CHECK.due("r1 ahead of " + setter, Due.made(setter + "back r1;").live(0, 1), true);
        }
        CHECK.due("count writes none", Due.made("count r1,p2;@p1 exit;").live(0, 17), true);
    }

    private static void ways() {
        CHECK.sentence("LIVE ahead of PLACE k is what some WAYS from k, that WORD with them, come to read");
        liveIs("@p0 go 2;set r1,5;back r1;", "r1 p0");
        liveIs("go 2;back r1;back r2;", "r2");
        liveIs("@p0 exit;back r1;", "r1 p0");
        liveIs("exit;back r1;", "");
        liveIs("word 1;back r1;", "");
        liveIs("back r2;back r1;", "r2");
        liveIs("call r1,2;back r3;back r2;", "r2");
        liveIs("addn r1,r1,1;go 0;", "r1");
        liveIs("go 2;back r3;addn r2,r1,1;go 4;@p1 go 1;set r1,2;go 2;", "r1 r3 p1");
        KernelText x = Due.made("exit;add r1,r2,r3;back r1;");
        CHECK.due("where nothing reaches", Due.liveAt(x, 1), "r2 r3");
        CHECK.due("at the last place", Due.liveAt(x, 2), "r1");
        KernelText full = Due.made("sync;".repeat(63) + "back r9;");
        CHECK.due("from the first place to the last", Due.liveAt(full, 0), "r9");
    }

    private static void overwriting() {
        CHECK.sentence("ahead of a WORD without a GUARD that writes it");
        liveIs("set r1,5;back r1;", "");
        liveIs("@p0 set r1,5;back r1;", "r1 p0");
        liveIs("@!p3 set r1,5;back r1;", "r1 p3");
        liveIs("addn r1,r1,1;back r1;", "r1");
        liveIs("not p1,p1;@p1 exit;", "p1");
        liveIs("less p1,r1,r2;@p1 set r3,5;back r3;", "r1 r2 r3");
        liveIs("@p0 not p1,p2;@p1 exit;", "p0 p1 p2");
        liveIs("set r1,5;go 0;", "");
        liveIs("set r1,5;set r2,6;add r3,r1,r2;back r3;", "");
        liveIs("@p0 go 2;set r1,5;back r1;", "r1 p0");
        liveIs("@p0 go 3;set r1,5;go 4;set r1,6;back r1;", "p0");
        CHECK.due("a register's number is no predicate's", Due.made("set r1,5;@p1 exit;").live(0, 17), true);
    }

    private static void unmade() {
        CHECK.sentence("A long that no TEXT makes: ?; (it has no NAME, so it reads and writes nothing by the list)");
        madeReads(Due.bits(4, 1, 2, 3, 0, 0), "r2 r3");
        unmadeReads(Due.bits(4, 1, 2, 3, 0, 1));
        unmadeReads(Due.bits(4, 1, 2, 3, 0, 0) | 1L << 24);
        unmadeReads(Due.bits(4, 1, 2, 3, 1, 0));
        unmadeReads(Due.bits(4, 1, 2, 3, 7, 0));
        madeReads(Due.bits(18, 1, 2, 0, 0, 5), "r2");
        unmadeReads(Due.bits(18, 1, 2, 3, 0, 5));
        madeReads(Due.bits(57, 1, 2, 3, 0, 5), "r1 r2 r3");
        unmadeReads(Due.bits(57, 1, 2, 3, 0, 5) | 1L << 31);
        madeReads(Due.bits(21, 1, 2, 3, 0, 3), "r2 r3 p3");
        unmadeReads(Due.bits(21, 1, 2, 3, 0, 4));
        unmadeReads(Due.bits(21, 1, 2, 3, 0, -16));
        madeReads(Due.bits(34, 0, 3, 2, 0, 0), "p2 p3");
        unmadeReads(Due.bits(34, 0, 3, 4, 0, 0));
        unmadeReads(Due.bits(34, 4, 3, 2, 0, 0));
        unmadeReads(Due.bits(36, 0, 2, 1, 0, 0));
        unmadeReads(Due.bits(42, 1, 2, 0, 0, 0));
        unmadeReads(Due.bits(22, 2, 2, 2, 0, 0));

        CHECK.sentence("A long that no TEXT makes: ?; (its TEXT has no GUARD, so it reads no GUARD's p)");
        unmadeReads(Due.bits(4, 1, 2, 3, 9, 1));
        unmadeReads(Due.bits(200, 0, 0, 0, 10, 0));
        unmadeReads(Due.bits(40, 0, 0, 0, 15, 64));
        unmadeReads(-1);
        KernelText x = Due.holding(Due.bits(4, 1, 2, 3, 9, 0));
        CHECK.due("a word with a guard", Due.liveAt(x, 0), "r2 r3 p1");

        CHECK.sentence("of what no TEXT makes none (WAYS): nothing behind it is come to");
        CHECK.due("behind a word", Due.liveAt(Due.made("sync;sync;back r14;"), 0), "r14");
        x = Due.made("sync;sync;back r14;");
        x.set(1, 1L << 24 | 1);
        CHECK.due("behind a long that no text makes", Due.liveAt(x, 0), "");
        CHECK.due("behind its place", Due.liveAt(x, 2), "r14");
        x.set(1, 1);
        CHECK.due("behind a word again", Due.liveAt(x, 0), "r14");
    }

    private static void unmadeReads(long w) {
        KernelText x = Due.made("sync;sync;back r14;");
        x.set(1, w);
        CHECK.due("no text makes " + w, x.total(3), 1);
        CHECK.due("live ahead of " + w, Due.liveAt(x, 1), "");
        CHECK.due("live one place ahead of " + w, Due.liveAt(x, 0), "");
    }

    private static void madeReads(long w, String want) {
        KernelText x = Due.made("sync;sync;exit;");
        x.set(1, w);
        CHECK.due("a text makes " + w, x.total(3), 0);
        CHECK.due("live ahead of " + w, Due.liveAt(x, 1), want);
        CHECK.due("live one place ahead of " + w, Due.liveAt(x, 0), want);
    }

    private static void noneSuch() {
        CHECK.sentence("register r (0 .. 15), or PREDICATE r - 16 (16 .. 19); false if there is none such");
        KernelText x = Due.made("@p0 back r0;@p3 back r15;");
        for (int r : new int[] {-1, 20, 21, 31, 32, 48, 64, -16, Integer.MIN_VALUE, Integer.MAX_VALUE}) {
            CHECK.due("live 0 " + r, x.live(0, r), false);
        }
        for (int r : new int[] {0, 15, 16, 19}) {
            CHECK.due("live 0 " + r, x.live(0, r), true);
        }

        CHECK.sentence("LIVE ahead of PLACE k; false if there is none such");
        for (int k : new int[] {-1, 2, 63, 64, 65, -64, Integer.MIN_VALUE, Integer.MAX_VALUE}) {
            CHECK.due("live " + k + " 0", x.live(k, 0), false);
            CHECK.due("live " + k + " 16", x.live(k, 16), false);
        }
        CHECK.due("live 1 15", x.live(1, 15), true);
        CHECK.due("live 1 0", x.live(1, 0), false);
        KernelText full = Due.made("sync;".repeat(63) + "back r0;");
        CHECK.due("the last of 64", full.live(63, 0), true);
        CHECK.due("behind it", full.live(64, 0), false);
        Due.compile(full, "sync;");
        CHECK.due("one of an older kernel", full.live(63, 0), false);
        CHECK.due("its words are not come to", full.live(0, 0), false);
    }
}
