import java.util.NoSuchElementException;

/**
 * What the tests share: they hold answers against a sentence of the document each, count those that
 * are not due, and type whole texts.
 */
final class Due {
    private String sentence = "";
    private int ofSentence = 2;
    private int sentences = 0;
    private int wrong = 0;
    private int seen = 0;

    /** What the next answers are held against, in the document's words. */
    void sentence(String words) {
        endSentence();
        sentence = words;
        ofSentence = 0;
        sentences++;
    }

    /** A case alone, without its neighbour beyond the boundary, tells too little. */
    private void endSentence() {
        if (ofSentence < 2) {
            wrong++;
            System.out.println("[" + sentence + "] has fewer than two answers");
        }
    }

    void due(String call, long got, long want) {
        due(call, Long.toString(got), Long.toString(want));
    }

    void due(String call, boolean got, boolean want) {
        due(call, Boolean.toString(got), Boolean.toString(want));
    }

    void due(String call, String got, String want) {
        seen++;
        ofSentence++;
        if (!got.equals(want)) {
            wrong++;
            System.out.println("[" + sentence + "] " + call + " answered " + got + ", due is " + want);
        }
    }

    /** That a text has this fault, told as kind@place; 0@0 is none. */
    void fault(String text, String want) {
        due("fault of " + text, faultOf(text), want);
    }

    /** That a text makes one word, and which. */
    void makes(String text, long want) {
        KernelText x = new KernelText();
        int words = compile(x, text);
        due("words of " + text, words, 1);
        due("word of " + text, wordOf(x, 0), Long.toString(want));
    }

    /** Prints what came out, and ends the test with exit code 1 if an answer was wrong. */
    void end() {
        endSentence();
        System.out.println(sentences + " sentences, " + seen + " answers, " + wrong + " not as due");
        if (wrong != 0 || seen == 0) {
            System.exit(1);
        }
    }

    /** A text's characters as the lowest bytes of a long, the last one lowest. */
    static long packed(String text) {
        long bytes = 0;
        for (char c : text.toCharArray()) {
            bytes = bytes << 8 | c;
        }
        return bytes;
    }

    static void type(KernelText x, String text) {
        for (int i = 0; i < text.length(); i += 8) {
            String piece = text.substring(i, Math.min(i + 8, text.length()));
            if (!x.type(packed(piece), piece.length())) {
                throw new IllegalStateException("the tape did not take " + piece);
            }
        }
    }

    /** How many words a text makes; -1 if compile() throws. */
    static int compile(KernelText x, String text) {
        type(x, text);
        try {
            return x.compile();
        } catch (IllegalArgumentException e) {
            return -1;
        }
    }

    /** An object with the kernel of a text without fault. */
    static KernelText made(String text) {
        KernelText x = new KernelText();
        if (compile(x, text) < 0) {
            throw new IllegalStateException("fault " + x.fault(0) + " at " + x.fault(1) + " of " + text);
        }
        return x;
    }

    /** An object with one word, any long. */
    static KernelText holding(long w) {
        KernelText x = new KernelText();
        x.set(0, w);
        return x;
    }

    /** What fault(0) and fault(1) tell of a text. */
    static String faultOf(String text) {
        KernelText x = new KernelText();
        int words = compile(x, text);
        String told = x.fault(0) + "@" + x.fault(1);
        return words < 0 == (x.fault(0) != 0) ? told : "compile() answered " + words + ", fault " + told;
    }

    /** How many characters the tape has, which is empty behind that. */
    static int taped(KernelText x) {
        // The tape ends too early behind @, at its length; and what stands ahead of it is told here.
        compile(x, "@");
        return x.fault(1) - 1;
    }

    /** The text of word k, by letter(). */
    static String spelled(KernelText x, int k) {
        StringBuilder text = new StringBuilder();
        for (int i = 0; x.letter(k, i) != KernelText.NONE; i++) {
            text.append((char) x.letter(k, i));
        }
        return text.toString();
    }

    /** Word k as a text; "throws" where there is none. */
    static String wordOf(KernelText x, int k) {
        try {
            return Long.toString(x.word(k));
        } catch (NoSuchElementException e) {
            return "throws";
        }
    }

    /** What a name is, as a text; "throws" where there is none. */
    static String nameOf(KernelText x, long name) {
        try {
            return Integer.toString(x.name(name));
        } catch (NoSuchElementException e) {
            return "throws";
        }
    }

    static String nameOf(KernelText x, String name) {
        return nameOf(x, packed(name));
    }

    /** All that is live ahead of place k, as "r1 p0". */
    static String liveAt(KernelText x, int k) {
        StringBuilder live = new StringBuilder();
        for (int r = 0; r < 20; r++) {
            if (x.live(k, r)) {
                live.append(live.length() == 0 ? "" : " ").append(r < 16 ? "r" + r : "p" + (r - 16));
            }
        }
        return live.toString();
    }

    /** All that can be asked of an object but its faults, to see whether a call changed something. */
    static String stateOf(KernelText x) {
        StringBuilder state = new StringBuilder();
        for (int what = 0; what < 4; what++) {
            state.append(x.total(what)).append(' ');
        }
        for (int k = 0; k < x.total(0); k++) {
            state.append(x.word(k)).append(' ').append(x.way(k, 0)).append(' ');
        }
        return state.toString();
    }

    static long bits(int op, int d, int a, int b, int g, int n) {
        return op | (long) d << 8 | (long) a << 12 | (long) b << 16 | (long) g << 20 | (long) n << 32;
    }
}
