import java.util.ArrayList;
import java.util.List;

/** Terms: what a text is, statement by statement, and the words by their names. */
public final class StatementTest {
    private static final Due CHECK = new Due();

    /** Every word's name, and the parts it is told with. */
    private static final String[][] WORDS = {
        {"", "exit", "sync"},
        {"r,N", "set", "call"},
        {"r,r,r", "add", "sub", "mul", "div", "rem", "and", "or", "xor", "shl", "shr", "sar", "min", "max", "high"},
        {"r,r,N", "addn", "muln", "andn", "swap"},
        {"r,r,r,p", "pick"},
        {"r", "tid", "bid", "size", "grid", "lane", "warp", "wide", "back"},
        {"p,r,r", "less", "same"},
        {"p,r,N", "lessn", "samen"},
        {"p,p,p", "both", "either"},
        {"p,p", "not", "any", "all"},
        {"r,p", "count"},
        {"N", "go", "word"},
        {"r,(r+N)", "load", "loads"},
        {"(r+N),r", "store", "stores"},
        {"r,(r+N),r", "atadd", "atmax", "atswap", "atcas", "sadd", "sswap"},
    };

    public static void main(String[] args) {
        statements();
        guards();
        registers();
        amounts();
        everyWord();
        fields();
        CHECK.end();
    }

    private static void statements() {
        CHECK.sentence("STATEMENTS, each with ; behind it");
        CHECK.fault("exit;", "0@0");
        CHECK.fault("exit", "1@4");
        CHECK.fault("exit exit;", "1@5");
        CHECK.fault("exit;exit", "1@9");
        CHECK.fault("x=1", "1@3");
        CHECK.fault("x=1 y=2;", "1@4");
        CHECK.fault("a:", "1@2");
        CHECK.fault("", "0@0");

        CHECK.sentence("NAME = N (a CONSTANT)");
        CHECK.fault("x=5;", "0@0");
        CHECK.fault("x=-5;", "0@0");
        CHECK.fault("=5;", "1@0");
        CHECK.fault("5=5;", "1@0");
        CHECK.fault("x=;", "1@2");
        CHECK.fault("x=-;", "1@3");
        CHECK.fault("x==5;", "1@2");
        CHECK.fault("x=5 6;", "1@4");
        CHECK.fault("x=y=5;", "1@3");
        CHECK.fault("x=(5);", "1@2");
        CHECK.fault("add=5;r1=6;p0=7;exit=8;", "0@0");

        CHECK.sentence("perhaps LABELS (NAME :)");
        CHECK.fault("exit;", "0@0");
        CHECK.fault("a:exit;", "0@0");
        CHECK.fault("a:b:exit;", "0@0");
        CHECK.fault("a::exit;", "1@2");
        CHECK.fault(":exit;", "1@0");
        CHECK.fault("5:exit;", "1@0");
        CHECK.fault("a:b=5;", "1@3");
        CHECK.fault("exit:exit;", "0@0");
        CHECK.fault("exit a:;", "1@5");
        CHECK.fault("@p0 a:exit;", "1@4");

        CHECK.sentence("then perhaps a GUARD, then perhaps a WORD");
        CHECK.due("neither", Due.compile(new KernelText(), ";;a:;"), 0);
        CHECK.due("both", Due.compile(new KernelText(), "a:@p0 exit;"), 1);
        CHECK.due("a word", Due.compile(new KernelText(), "exit;"), 1);
        CHECK.fault("exit @p0;", "1@5");
        CHECK.fault("@p0 @p1 exit;", "1@4");

        CHECK.sentence("(a GUARD not alone)");
        CHECK.fault("@p0;", "1@3");
        CHECK.fault("@!p3 ;", "1@5");
        CHECK.fault("a:@p0;", "1@5");
        CHECK.fault("@p0", "1@3");
        CHECK.fault("@p0 exit;", "0@0");
        CHECK.fault("a:;", "0@0");
    }

    private static void guards() {
        CHECK.sentence("GUARD: @ p, or @ ! p");
        CHECK.fault("@p0 exit;", "0@0");
        CHECK.fault("@!p0 exit;", "0@0");
        CHECK.fault("@!!p0 exit;", "1@2");
        CHECK.fault("!p0 exit;", "1@0");
        CHECK.fault("@@p0 exit;", "1@1");
        CHECK.fault("@exit;", "1@1");
        CHECK.fault("@r0 exit;", "1@1");
        CHECK.fault("@0 exit;", "1@1");
        CHECK.fault("p0 exit;", "1@0");
        CHECK.fault("@p3 exit;", "0@0");
        CHECK.fault("@p4 exit;", "1@1");
        CHECK.fault("@!p4 exit;", "1@2");

        CHECK.sentence("GUARD @pk: g = 8 + k, with ! 12 + k; else 0");
        for (int k = 0; k < 4; k++) {
            CHECK.makes("@p" + k + " sync;", Due.bits(1, 0, 0, 0, 8 + k, 0));
            CHECK.makes("@!p" + k + " sync;", Due.bits(1, 0, 0, 0, 12 + k, 0));
        }
        CHECK.makes("sync;", 1);
    }

    private static void registers() {
        CHECK.sentence("r: r0 .. r15");
        for (int r = 0; r < 16; r++) {
            CHECK.makes("tid r" + r + ";", Due.bits(3, r, 0, 0, 0, 0));
        }
        for (String none : new String[] {"r16", "r17", "r20", "r00", "r01", "r015", "r", "rr1", "p1", "1", "x", "r1x"}) {
            CHECK.fault("tid " + none + ";", "1@4");
        }
        CHECK.fault("r1=3;tid r1;", "0@0");
        CHECK.fault("r16=3;tid r16;", "1@10");

        CHECK.sentence("p: p0 .. p3");
        for (int p = 0; p < 4; p++) {
            CHECK.makes("not p" + p + ",p" + (3 - p) + ";", Due.bits(36, p, 3 - p, 0, 0, 0));
        }
        for (String none : new String[] {"p4", "p5", "p9", "p10", "p00", "p01", "p", "r1", "1", "x", "p1x"}) {
            CHECK.fault("not " + none + ",p0;", "1@4");
            CHECK.fault("not p0," + none + ";", "1@7");
        }
        CHECK.makes("pick r1,r2,r3,p3;", Due.bits(21, 1, 2, 3, 0, 3));
        CHECK.fault("pick r1,r2,r3,p4;", "1@14");
    }

    private static void amounts() {
        CHECK.sentence("N: perhaps -, then a NUMBER or a NAME");
        CHECK.makes("set r1,5;", Due.bits(2, 1, 0, 0, 0, 5));
        CHECK.makes("set r1,-5;", Due.bits(2, 1, 0, 0, 0, -5));
        CHECK.makes("set r1,-0;", Due.bits(2, 1, 0, 0, 0, 0));
        CHECK.makes("x=5;set r1,x;", Due.bits(2, 1, 0, 0, 0, 5));
        CHECK.makes("x=5;set r1,-x;", Due.bits(2, 1, 0, 0, 0, -5));
        CHECK.makes("x=-5;set r1,-x;", Due.bits(2, 1, 0, 0, 0, 5));
        CHECK.fault("set r1,--5;", "1@8");
        CHECK.fault("set r1,+5;", "1@7");
        CHECK.fault("set r1,5-;", "1@8");
        CHECK.fault("set r1,-;", "1@8");
        CHECK.fault("set r1,(5);", "1@7");
        CHECK.fault("set r1,5+5;", "1@8");

        CHECK.sentence("(a CONSTANT, or a LABEL: its PLACE");
        CHECK.makes("l:set r1,l;", Due.bits(2, 1, 0, 0, 0, 0));
        CHECK.makes("set r1,l;l:;", Due.bits(2, 1, 0, 0, 0, 1));
        CHECK.makes("set r1,-l;l:;", Due.bits(2, 1, 0, 0, 0, -1));
        CHECK.makes("go l;l:;", Due.bits(40, 0, 0, 0, 0, 1));
        CHECK.makes("call r1,l;l:;", Due.bits(41, 1, 0, 0, 0, 1));
        CHECK.makes("load r1,(r2+l);l:;", Due.bits(50, 1, 2, 0, 0, 1));
        CHECK.makes("word l;l:;", Due.bits(0, 0, 0, 0, 0, 1));
        CHECK.makes("set r1,late;late=7;", Due.bits(2, 1, 0, 0, 0, 7));
        CHECK.makes("add=3;set r1,add;", Due.bits(2, 1, 0, 0, 0, 3));
        CHECK.makes("r1=3;set r1,r1;", Due.bits(2, 1, 0, 0, 0, 3));
        CHECK.makes("p0:@p0 go p0;", Due.bits(40, 0, 0, 0, 8, 0));
        String most = "sync;".repeat(63);
        CHECK.due("a label at 62", Due.spelled(Due.made(most.substring(5) + "l:sync;go l;"), 63), "go 62;");
        CHECK.due("a label at 63", Due.spelled(Due.made(most + "l:go l;"), 63), "go 63;");
        CHECK.due("a label at 64", Due.spelled(Due.made(most + "set r1,l;l:;"), 63), "set r1,64;");

        CHECK.sentence("of a CONSTANT's N one that is told ahead of it)");
        CHECK.makes("y=5;x=y;set r1,x;", Due.bits(2, 1, 0, 0, 0, 5));
        CHECK.fault("x=y;y=5;set r1,x;", "2@2");
        CHECK.makes("set r1,x;l:;x=l;", Due.bits(2, 1, 0, 0, 0, 1));
        CHECK.fault("set r1,x;x=l;l:;", "2@11");
        CHECK.fault("x=x;", "2@2");
        CHECK.fault("x=-x;", "2@3");
        CHECK.fault("x=-y;y=5;", "2@3");
    }

    /** The tokens of a statement; its guard, for behind one no name is a label or constant. */
    private static List<String> tokens(String name, String shape) {
        List<String> tokens = new ArrayList<>(List.of("@", "p1", name));
        for (char c : shape.toCharArray()) {
            tokens.add(c == 'r' ? "r7" : c == 'p' ? "p2" : c == 'N' ? "7" : String.valueOf(c));
        }
        tokens.add(";");
        return tokens;
    }

    private static String text(List<String> tokens) {
        return String.join(" ", tokens);
    }

    private static void everyWord() {
        for (String[] group : WORDS) {
            for (int i = 1; i < group.length; i++) {
                List<String> tokens = tokens(group[i], group[0]);
                CHECK.sentence("WORDS, by their NAMES .. with: " + group[0] + ": " + group[i]);
                CHECK.fault(text(tokens), "0@0");
                for (int at = 3; at < tokens.size(); at++) {
                    spoil(tokens, at);
                }
            }
        }
    }

    /** Ends the text ahead of a token, and puts others there that can't stand there. */
    private static void spoil(List<String> tokens, int at) {
        String ahead = text(tokens.subList(0, at)) + " ";
        String behind = " " + text(tokens.subList(at + 1, tokens.size()));
        String token = tokens.get(at);
        CHECK.fault(ahead, "1@" + ahead.length());
        for (String other : new String[] {"r7", "r16", "p2", "p4", "7", "-", ",", ";", ":", "=", "(", ")", "+", "@", "!"}) {
            boolean amount = token.equals("7") && (other.length() > 1 || other.equals("-"));
            if (!other.equals(token) && !amount) {
                CHECK.fault(ahead + other + behind, "1@" + ahead.length());
            }
        }
    }

    private static void fields() {
        CHECK.sentence("exit (0), sync (1)");
        CHECK.makes("exit;", 0);
        CHECK.makes("sync;", 1);

        CHECK.sentence("set (2: d, n)");
        CHECK.makes("set r15,7;", Due.bits(2, 15, 0, 0, 0, 7));
        CHECK.makes("set r0,-1;", Due.bits(2, 0, 0, 0, 0, -1));

        CHECK.sentence("add (4) .. high (17): d, a, b");
        for (int i = 0; i < 14; i++) {
            CHECK.makes(WORDS[2][i + 1] + " r1,r2,r15;", Due.bits(4 + i, 1, 2, 15, 0, 0));
        }

        CHECK.sentence("addn (18) muln (19) andn (20) swap (73): d, a, n");
        CHECK.makes("addn r1,r2,-4;", Due.bits(18, 1, 2, 0, 0, -4));
        CHECK.makes("muln r1,r2,4;", Due.bits(19, 1, 2, 0, 0, 4));
        CHECK.makes("andn r1,r2,4;", Due.bits(20, 1, 2, 0, 0, 4));
        CHECK.makes("swap r1,r2,4;", Due.bits(73, 1, 2, 0, 0, 4));

        CHECK.sentence("pick (21): d, a, b, n the number of p");
        CHECK.makes("pick r1,r2,r3,p2;", Due.bits(21, 1, 2, 3, 0, 2));
        CHECK.makes("pick r1,r2,r3,p0;", Due.bits(21, 1, 2, 3, 0, 0));

        CHECK.sentence("tid (3, n 0) .. wide (3, n 6): d");
        for (int i = 0; i < 7; i++) {
            CHECK.makes(WORDS[5][i + 1] + " r9;", Due.bits(3, 9, 0, 0, 0, i));
        }

        CHECK.sentence("less (30) same (31): d, a, b .. lessn (32) samen (33): d, a, n");
        CHECK.makes("less p1,r2,r3;", Due.bits(30, 1, 2, 3, 0, 0));
        CHECK.makes("same p1,r2,r3;", Due.bits(31, 1, 2, 3, 0, 0));
        CHECK.makes("lessn p1,r2,8;", Due.bits(32, 1, 2, 0, 0, 8));
        CHECK.makes("samen p1,r2,8;", Due.bits(33, 1, 2, 0, 0, 8));

        CHECK.sentence("both (34) either (35): d, a, b. p,p: not (36) any (70) all (71): d, a. r,p: count (72): d, a");
        CHECK.makes("both p1,p2,p3;", Due.bits(34, 1, 2, 3, 0, 0));
        CHECK.makes("either p1,p2,p3;", Due.bits(35, 1, 2, 3, 0, 0));
        CHECK.makes("not p1,p2;", Due.bits(36, 1, 2, 0, 0, 0));
        CHECK.makes("any p1,p2;", Due.bits(70, 1, 2, 0, 0, 0));
        CHECK.makes("all p1,p2;", Due.bits(71, 1, 2, 0, 0, 0));
        CHECK.makes("count r10,p2;", Due.bits(72, 10, 2, 0, 0, 0));

        CHECK.sentence("go (40): n. r,N: call (41): d, n. r: back (42): a");
        CHECK.makes("go 63;", Due.bits(40, 0, 0, 0, 0, 63));
        CHECK.makes("call r4,0;", Due.bits(41, 4, 0, 0, 0, 0));
        CHECK.makes("back r4;", Due.bits(42, 0, 4, 0, 0, 0));

        CHECK.sentence("load (50) .. sswap (59): d, a, n, b");
        String[] memory = {"load", "store", "loads", "stores", "atadd", "atmax", "atswap", "atcas", "sadd", "sswap"};
        for (int i = 0; i < memory.length; i++) {
            boolean load = i == 0 || i == 2;
            boolean store = i == 1 || i == 3;
            String text = memory[i] + (store ? " (r2+4)" : " r1,(r2+4)") + (load ? ";" : ",r3;");
            CHECK.makes(text, Due.bits(50 + i, store ? 0 : 1, 2, load ? 0 : 3, 0, 4));
        }

        CHECK.sentence("word (the WORD n, op and all others 0 but for n and a GUARD)");
        CHECK.makes("word -1;", Due.bits(0, 0, 0, 0, 0, -1));
        CHECK.makes("word 40;", Due.bits(0, 0, 0, 0, 0, 40));
        CHECK.makes("word 0;", 0);
        CHECK.makes("@p2 word 12;", Due.bits(0, 0, 0, 0, 10, 12));
    }
}
