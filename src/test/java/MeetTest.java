/** Promise 12, and what Terms say of ends and where ways meet. */
public final class MeetTest {
    private static final Due CHECK = new Due();

    public static void main(String[] args) {
        reached();
        twoWays();
        toAnEnd();
        ends();
        butK();
        throughAll();
        first();
        noneSuch();
        CHECK.end();
    }

    private static void meetIs(String what, String text, int k, int want) {
        CHECK.due("meet of " + k + ", " + what, Due.made(text).meet(k), want);
    }

    private static void reached() {
        CHECK.sentence("MEET of PLACE k, REACHED");
        meetIs("reached", "sync;@p0 go 3;sync;exit;", 1, 3);
        meetIs("not reached", "exit;@p0 go 3;sync;exit;", 1, -1);
        meetIs("reached by a go", "go 2;exit;@p0 go 4;sync;exit;", 2, 4);
        meetIs("gone past", "go 3;exit;@p0 go 4;sync;exit;", 2, -1);
    }

    private static void twoWays() {
        CHECK.sentence("with two different WAYS on");
        meetIs("two", "@p0 go 2;sync;exit;", 0, 2);
        meetIs("two that are one", "@p0 go 1;exit;", 0, -1);
        meetIs("two that are one", "@p0 call r1,1;sync;exit;", 0, -1);
        meetIs("one", "sync;exit;", 0, -1);
        meetIs("one", "go 1;exit;", 0, -1);
        meetIs("a guarded exit has one", "@p0 exit;exit;", 0, -1);
        meetIs("a guarded word, too", "@p0 sync;exit;", 0, -1);
        meetIs("a call", "@p0 call r1,2;sync;sync;exit;", 0, 2);
        meetIs("to itself", "@p0 go 0;exit;", 0, 1);
    }

    private static void toAnEnd() {
        CHECK.sentence("from which some WAYS come to an END");
        meetIs("no end", "@p0 go 0;go 0;", 0, -1);
        meetIs("no end, though both ways meet", "@p0 go 2;sync;go 2;", 0, -1);
        meetIs("one end", "@p0 go 2;sync;@p1 go 2;exit;", 0, 2);
        meetIs("no end on one way", "@p0 go 2;go 1;sync;exit;", 0, 2);
        meetIs("no end on the other way", "@p0 go 3;sync;exit;go 3;", 0, 1);
        meetIs("no end on one way, two on the other", "@p0 go 2;go 1;@p1 go 4;exit;exit;", 0, 2);
        meetIs("behind that", "@p0 go 2;go 1;@p1 go 4;exit;exit;", 2, -1);
    }

    private static void ends() {
        CHECK.sentence("One that is no PLACE of the KERNEL (or where there is none) is an END");
        meetIs("off the last place both ways", "@p0 go 63;", 0, -1);
        meetIs("off the last place one way", "@p0 go 63;sync;exit;", 0, -1);
        meetIs("just off it", "@p0 go 3;sync;exit;", 0, -1);
        meetIs("just not off it", "@p0 go 2;sync;exit;", 0, 2);
        meetIs("off it behind the meet", "@p0 go 2;sync;sync;", 0, 2);
        meetIs("off it by k + 1", "@p0 go 0;", 0, -1);
        meetIs("off it ahead of the meet", "@p0 go 2;go 9;sync;exit;", 0, -1);
        meetIs("exit where there is none", "@p0 go 2;exit;exit;", 0, -1);
        meetIs("word where there is none", "@p0 go 2;word 1;exit;", 0, -1);
        meetIs("back where there is none", "@p0 call r1,3;sync;exit;back r1;", 0, -1);
        meetIs("a guarded exit goes on", "@p0 go 2;@p1 exit;exit;", 0, 2);
        KernelText x = Due.made("@p0 go 2;sync;exit;");
        x.set(1, 255);
        CHECK.due("what no text makes is an end", x.meet(0), -1);
        x.set(2, 255);
        x.set(1, 1);
        CHECK.due("and can be met at", x.meet(0), 2);
    }

    private static void butK() {
        CHECK.sentence("of the PLACES but k");
        meetIs("a loop", "sync;sync;@p0 go 0;exit;", 2, 3);
        meetIs("a loop on itself", "@p0 go 0;exit;", 0, 1);
        meetIs("through k again", "sync;@p0 go 0;sync;exit;", 1, 2);
        meetIs("through k again, then none", "sync;@p0 go 0;@p1 go 9;exit;", 1, 2);
        meetIs("k and then an end", "sync;@p0 go 0;", 1, -1);
    }

    private static void throughAll() {
        CHECK.sentence("that all WAYS from k to an END go through");
        meetIs("if", "@p0 go 2;sync;exit;", 0, 2);
        meetIs("if and else", "@p0 go 3;sync;go 4;sync;exit;", 0, 4);
        meetIs("within a loop", "@p0 go 2;sync;@p1 go 0;exit;", 0, 2);
        meetIs("around a loop", "@p0 go 3;sync;@p1 go 1;exit;", 0, 3);
        meetIs("nested, outer", "@p0 go 5;@p1 go 4;sync;go 6;sync;sync;exit;", 0, 6);
        meetIs("nested, inner", "@p0 go 5;@p1 go 4;sync;go 6;sync;sync;exit;", 1, 6);
        meetIs("ways that cross", "@p0 go 3;@p1 go 4;go 5;go 4;go 5;exit;", 0, 5);
        meetIs("three ways", "@p0 go 4;@p1 go 5;sync;go 6;go 6;go 6;exit;", 0, 6);
        KernelText full = Due.made("@p0 go 63;" + "sync;".repeat(63));
        CHECK.due("the last of 64", full.meet(0), 63);
    }

    private static void first() {
        CHECK.sentence("the one that comes first on each of them");
        meetIs("not of what follows", "@p0 go 3;sync;go 4;sync;sync;exit;", 0, 4);
        meetIs("of many that follow", "@p0 go 2;sync;sync;sync;sync;exit;", 0, 2);
        meetIs("of a lower place", "go 3;exit;go 1;@p0 go 5;sync;go 2;", 3, 5);
        meetIs("nested apart, outer", "@p0 go 4;@p1 go 3;sync;sync;exit;", 0, 4);
        meetIs("nested apart, inner", "@p0 go 4;@p1 go 3;sync;sync;exit;", 1, 3);
        meetIs("behind, at the first place", "@p1 go 4;@p0 go 3;go 0;go 0;exit;", 1, 0);
        meetIs("and from there", "@p1 go 4;@p0 go 3;go 0;go 0;exit;", 0, 4);
    }

    private static void noneSuch() {
        CHECK.sentence("NONE if there is none such, and of other PLACES");
        meetIs("none such", "@p0 go 2;exit;exit;", 0, -1);
        KernelText x = Due.made("@p0 go 2;sync;exit;");
        CHECK.due("meet 0", x.meet(0), 2);
        for (int k : new int[] {-1, 1, 2, 3, 63, 64, 65, -64, Integer.MIN_VALUE, Integer.MAX_VALUE}) {
            CHECK.due("meet " + k, x.meet(k), -1);
        }
        x.set(0, 255);
        CHECK.due("what no text makes has no ways on", x.meet(0), -1);
        Due.compile(x, "exit;");
        CHECK.due("one of an older kernel", x.meet(0), -1);
        CHECK.due("no kernel", new KernelText().meet(0), -1);
    }
}
