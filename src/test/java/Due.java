import java.util.NoSuchElementException;

/** What the tests share: they count the answers that are not due, and type whole texts. */
final class Due {
    private int wrong = 0;
    private int seen = 0;

    void due(String call, long got, long want) {
        seen++;
        if (got != want) {
            wrong++;
            System.out.println(call + " answered " + got + ", due is " + want);
        }
    }

    void due(String call, boolean got, boolean want) {
        due(call, got ? 1 : 0, want ? 1 : 0);
    }

    void due(String call, String got, String want) {
        seen++;
        if (!got.equals(want)) {
            wrong++;
            System.out.println(call + " answered " + got + ", due is " + want);
        }
    }

    /** Prints what came out, and ends the test with exit code 1 if an answer was wrong. */
    void end() {
        System.out.println(seen + " answers, " + wrong + " not as due");
        if (wrong != 0 || seen == 0) {
            System.exit(1);
        }
    }

    /** A text's characters as the lowest bytes of a long, the last one lowest. */
    static long packed(String text) {
        long bytes = 0;
        for (char c : text.toCharArray()) {
            bytes = bytes << 8 | c;
        }
        return bytes;
    }

    static void type(KernelText x, String text) {
        for (int i = 0; i < text.length(); i += 8) {
            String piece = text.substring(i, Math.min(i + 8, text.length()));
            if (!x.type(packed(piece), piece.length())) {
                throw new IllegalStateException("the tape did not take " + piece);
            }
        }
    }

    /** How many words a text makes; -1 if compile() throws. */
    static int compile(KernelText x, String text) {
        type(x, text);
        try {
            return x.compile();
        } catch (IllegalArgumentException e) {
            return -1;
        }
    }

    /** An object with the kernel of a text without fault. */
    static KernelText made(String text) {
        KernelText x = new KernelText();
        if (compile(x, text) < 0) {
            throw new IllegalStateException("fault " + x.fault(0) + " at " + x.fault(1) + " of " + text);
        }
        return x;
    }

    /** What fault(0) and fault(1) tell of a text. */
    static String faultOf(String text) {
        KernelText x = new KernelText();
        int words = compile(x, text);
        String told = x.fault(0) + "@" + x.fault(1);
        return words < 0 || x.fault(0) == 0 ? told : "no throw, " + told;
    }

    /** The text of word k, by letter(). */
    static String spelled(KernelText x, int k) {
        StringBuilder text = new StringBuilder();
        for (int i = 0; x.letter(k, i) != KernelText.NONE; i++) {
            text.append((char) x.letter(k, i));
        }
        return text.toString();
    }

    /** Word k as a text; "throws" where there is none. */
    static String wordOf(KernelText x, int k) {
        try {
            return Long.toString(x.word(k));
        } catch (NoSuchElementException e) {
            return "throws";
        }
    }

    /** What a name is, as a text; "throws" where there is none. */
    static String nameOf(KernelText x, long name) {
        try {
            return Integer.toString(x.name(name));
        } catch (NoSuchElementException e) {
            return "throws";
        }
    }

    static long bits(int op, int d, int a, int b, int g, int n) {
        return op | (long) d << 8 | (long) a << 12 | (long) b << 16 | (long) g << 20 | (long) n << 32;
    }
}
