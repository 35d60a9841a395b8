import java.util.NoSuchElementException;
import java.util.Random;

/** Any arguments in any state: no call throws but as the document says. */
public final class AnyCallTest {
    private static final int[] EDGES = {Integer.MIN_VALUE, -65, -64, -1, 0, 1, 2, 4, 8, 9, 15, 16, 19, 20, 31, 32, 62,
        63, 64, 65, 699, 700, 701, Integer.MAX_VALUE};
    private static final String[] PIECES = {"a:", "b:", "x=", "exit;", "@p0 ", "@!p3 ", "go ", "63;", "64;", "a;", "-x;",
        "set r1,", "add r1,", "r2,r3;", "load r1,", "(r2+", "7)", ",r3;", ";", " ", "#", "21474836", "48;", "nope "};

    public static void main(String[] args) {
        Due check = new Due();
        check.sentence("A call of the face throws exactly what and where the document says");
        Random dice = new Random(20261116);
        int good = 0;
        for (int i = 0; i < 1000; i++) {
            KernelText x = new KernelText();
            for (int call = 0; call < 160; call++) {
                String thrown = thrownBy(x, dice);
                check.due("call " + call + " of object " + i, thrown, "");
                good += x.total(0) > 0 ? 1 : 0;
            }
        }
        check.due("kernels came of it", good > 10000, true);
        check.end();
    }

    private static String thrownBy(KernelText x, Random dice) {
        try {
            ask(x, dice);
            return "";
        } catch (RuntimeException e) {
            return e.toString();
        }
    }

    private static void ask(KernelText x, Random dice) {
        int k = edge(dice);
        int i = edge(dice);
        switch (dice.nextInt(16)) {
            case 0 -> compile(x);
            case 1 -> x.fault(k);
            case 2 -> x.set(dice.nextBoolean() ? x.total(0) : k, word(dice));
            case 3 -> word(x, k);
            case 4 -> x.letter(k, i);
            case 5 -> name(x, dice.nextBoolean() ? 'a' : dice.nextLong());
            case 6 -> x.way(k, i);
            case 7 -> x.reached(k);
            case 8 -> x.live(k, i);
            case 9 -> x.meet(k);
            case 10 -> x.total(k);
            case 11 -> x.type(dice.nextLong(), k);
            default -> Due.type(x, PIECES[dice.nextInt(PIECES.length)]);
        }
    }

    private static int edge(Random dice) {
        return dice.nextInt(3) == 0 ? dice.nextInt(20) : EDGES[dice.nextInt(EDGES.length)];
    }

    private static long word(Random dice) {
        int n = dice.nextBoolean() ? edge(dice) : dice.nextInt(8);
        long w = Due.bits(dice.nextInt(80), dice.nextInt(4), dice.nextInt(4), 0, dice.nextInt(16), n);
        return dice.nextInt(4) == 0 ? dice.nextLong() : w;
    }

    private static void compile(KernelText x) {
        try {
            x.compile();
        } catch (IllegalArgumentException e) {
            if (x.fault(0) == 0) {
                throw new IllegalStateException("thrown without a fault");
            }
        }
    }

    private static void word(KernelText x, int k) {
        try {
            x.word(k);
        } catch (NoSuchElementException e) {
            if (k >= 0 && k < x.total(0)) {
                throw new IllegalStateException("thrown at a place");
            }
        }
    }

    private static void name(KernelText x, long name) {
        try {
            x.name(name);
        } catch (NoSuchElementException e) {
            return;
        }
    }
}
