import com.sun.management.ThreadMXBean;
import java.lang.management.ManagementFactory;

/** That calls make next to no objects: rows are made with the object, and used again. */
public final class RoomTest {
    private static final Due CHECK = new Due();
    private static final ThreadMXBean MEMORY = (ThreadMXBean) ManagementFactory.getThreadMXBean();
    private static final long[] PIECES = new long[87];

    public static void main(String[] args) {
        String text = dearest();
        for (int i = 0; i < PIECES.length; i++) {
            PIECES[i] = Due.packed(text.substring(8 * i, 8 * i + 8));
        }
        // The machine makes something of its own when a call is made for the first time.
        for (int i = 0; i < 30; i++) {
            bytesOf(new KernelText());
        }
        CHECK.sentence("All calls of one run live in ONE room: make rows in constructors and use them again");
        long ahead = MEMORY.getCurrentThreadAllocatedBytes();
        KernelText x = new KernelText();
        long made = MEMORY.getCurrentThreadAllocatedBytes() - ahead;
        CHECK.due("bytes of a new object: " + made, made < 50_000, true);
        long left = bytesOf(x);
        CHECK.due("bytes of its first 512 calls: " + left, left < 1_000, true);
        long again = bytesOf(x);
        CHECK.due("bytes of as many more: " + again, again < 1_000, true);
        CHECK.due("words", x.total(0), 20);
        CHECK.end();
    }

    /** 696 characters of words that read, write, go and have names. */
    private static String dearest() {
        StringBuilder text = new StringBuilder();
        for (int i = 0; i < 20; i++) {
            text.append((char) ('a' + i)).append("bcdefg:@!p3 ");
            text.append(i % 3 == 0 ? "go " + i + ";" : "atcas r11,(r12+-99),r9;");
        }
        return text.append(" ".repeat(696 - text.length())).toString();
    }

    /** What 512 of the dearest calls make: five whole texts, and all that can be asked of the words. */
    private static long bytesOf(KernelText x) {
        long ahead = MEMORY.getCurrentThreadAllocatedBytes();
        for (int turn = 0; turn < 5; turn++) {
            for (long piece : PIECES) {
                x.type(piece, 8);
            }
            x.compile();
        }
        for (int k = 0; k < 8; k++) {
            x.letter(k, 0);
            x.letter(k, 30);
            x.way(k, 0);
            x.reached(k);
            x.live(k, 11);
            x.meet(k);
            x.total(k % 4);
            x.set(k, x.word(k));
        }
        return MEMORY.getCurrentThreadAllocatedBytes() - ahead;
    }
}
