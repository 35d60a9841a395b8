import java.util.NoSuchElementException;

/**
 * Kernels as texts: words for many threads with guards, labels and constants told by names, made
 * into longs; longs made into texts again; what a kernel reads ahead of writing it, what can't be
 * come to, where ways part and meet.
 */
public final class KernelText {
    public static final int NONE = -1;

    private static final int MOST_WORDS = 64;
    private static final int MOST_CHARACTERS = 700;
    // A LABEL takes two characters at least, so the TAPE has no room for more.
    private static final int MOST_NAMES = 350;
    private static final int MOST_LETTERS = 8;
    private static final int MOST_DIGITS = 10;
    private static final long GREATEST_NUMBER = 2147483648L;
    private static final int REGISTERS = 16;
    private static final int PREDICATES = 4;
    private static final int GUARD_SHIFT = 20;
    private static final int PLAIN_GUARD = 8;
    private static final int TURNED_GUARD = 12;
    private static final int N_SHIFT = 32;
    private static final long NIBBLE = 15L;
    private static final long CODE = 255L;
    private static final long LOW_HALF = 0xFFFFFFFFL;
    private static final String SIGNS = ";:,@!=-()+";

    // Kinds of TOKENS that are no SIGN; a SIGN's kind is its character, all of which are above 32.
    private static final int END_OF_TAPE = 0;
    private static final int NAME = 1;
    private static final int NUMBER = 2;
    private static final int NO_TOKEN = 3;

    private static final Op[] OPS = Op.values();

    private final Tape tape;
    private final Parser parser;
    private final Names names;
    private final Kernel kernel;
    private final Ways ways;
    private final Speller speller;

    public KernelText() {
        tape = new Tape();
        parser = new Parser(tape);
        names = new Names();
        kernel = new Kernel();
        ways = new Ways(kernel);
        speller = new Speller();
    }

    public boolean type(long word, int n) {
        return tape.append(word, n);
    }

    public int compile() throws IllegalArgumentException {
        boolean good = parser.parse();
        tape.length = 0;
        if (!good) {
            throw new IllegalArgumentException("the text has a fault");
        }
        kernel.become(parser.words, parser.count);
        names.become(parser.told);
        return kernel.count;
    }

    public int fault(int what) {
        if (what == 0) {
            return parser.faultKind;
        }
        return what == 1 ? parser.faultPlace : NONE;
    }

    public boolean set(int k, long w) {
        if (k < 0 || k > kernel.count || k >= MOST_WORDS) {
            return false;
        }
        kernel.put(k, w);
        return true;
    }

    public long word(int k) throws NoSuchElementException {
        if (!kernel.has(k)) {
            throw new NoSuchElementException("no such word");
        }
        return kernel.words[k];
    }

    public int letter(int k, int i) {
        if (!kernel.has(k)) {
            return NONE;
        }
        return speller.letterOf(kernel.ops[k], kernel.words[k], i);
    }

    public int name(long name) throws NoSuchElementException {
        int found = names.find(name);
        if (found == NONE) {
            throw new NoSuchElementException("no such name");
        }
        return (int) names.values[found];
    }

    public int way(int k, int i) {
        if (i == 0) {
            return ways.first(k);
        }
        return i == 1 ? ways.second(k) : NONE;
    }

    public boolean reached(int k) {
        return (ways.fromStart() & kernel.bitOf(k)) != 0;
    }

    public boolean live(int k, int r) {
        if (r < 0 || r >= REGISTERS + PREDICATES) {
            return false;
        }
        return ways.comesToRead(k, r);
    }

    public int meet(int k) {
        return ways.meetOf(k);
    }

    public int total(int what) {
        switch (what) {
            case 0:
                return kernel.count;
            case 1:
                return Long.bitCount(ways.fromStart());
            case 2:
                return names.count;
            case 3:
                return kernel.unmade();
            default:
                return NONE;
        }
    }

    /**
     * What WORDS are called, their op, and their parts as a text tells them: registers in the
     * fields d, a, b; predicates in the fields D, A, B (those of d, a, b) and q (that of n); n an N;
     * t an N that is a PLACE to go to; all else are SIGNS. Where no part is n, q or t, n is fixed.
     */
    private enum Op {
        EXIT("exit", 0, 0, ""),
        // Behind exit, since a long with op 0 and n 0 is told as exit.
        WORD("word", 0, 0, "n"),
        SYNC("sync", 1, 0, ""),
        SET("set", 2, 0, "d,n"),
        TID("tid", 3, 0, "d"),
        BID("bid", 3, 1, "d"),
        SIZE("size", 3, 2, "d"),
        GRID("grid", 3, 3, "d"),
        LANE("lane", 3, 4, "d"),
        WARP("warp", 3, 5, "d"),
        WIDE("wide", 3, 6, "d"),
        ADD("add", 4, 0, "d,a,b"),
        SUB("sub", 5, 0, "d,a,b"),
        MUL("mul", 6, 0, "d,a,b"),
        DIV("div", 7, 0, "d,a,b"),
        REM("rem", 8, 0, "d,a,b"),
        AND("and", 9, 0, "d,a,b"),
        OR("or", 10, 0, "d,a,b"),
        XOR("xor", 11, 0, "d,a,b"),
        SHL("shl", 12, 0, "d,a,b"),
        SHR("shr", 13, 0, "d,a,b"),
        SAR("sar", 14, 0, "d,a,b"),
        MIN("min", 15, 0, "d,a,b"),
        MAX("max", 16, 0, "d,a,b"),
        HIGH("high", 17, 0, "d,a,b"),
        ADDN("addn", 18, 0, "d,a,n"),
        MULN("muln", 19, 0, "d,a,n"),
        ANDN("andn", 20, 0, "d,a,n"),
        PICK("pick", 21, 0, "d,a,b,q"),
        LESS("less", 30, 0, "D,a,b"),
        SAME("same", 31, 0, "D,a,b"),
        LESSN("lessn", 32, 0, "D,a,n"),
        SAMEN("samen", 33, 0, "D,a,n"),
        BOTH("both", 34, 0, "D,A,B"),
        EITHER("either", 35, 0, "D,A,B"),
        NOT("not", 36, 0, "D,A"),
        GO("go", 40, 0, "t"),
        CALL("call", 41, 0, "d,t"),
        BACK("back", 42, 0, "a"),
        LOAD("load", 50, 0, "d,(a+n)"),
        STORE("store", 51, 0, "(a+n),b"),
        LOADS("loads", 52, 0, "d,(a+n)"),
        STORES("stores", 53, 0, "(a+n),b"),
        ATADD("atadd", 54, 0, "d,(a+n),b"),
        ATMAX("atmax", 55, 0, "d,(a+n),b"),
        ATSWAP("atswap", 56, 0, "d,(a+n),b"),
        ATCAS("atcas", 57, 0, "d,(a+n),b"),
        SADD("sadd", 58, 0, "d,(a+n),b"),
        SSWAP("sswap", 59, 0, "d,(a+n),b"),
        ANY("any", 70, 0, "D,A"),
        ALL("all", 71, 0, "D,A"),
        COUNT("count", 72, 0, "d,A"),
        SWAP("swap", 73, 0, "d,a,n");

        final String text;
        final String parts;
        final long base;
        final long key;

        Op(String text, int code, int fixed, String parts) {
            this.text = text;
            this.parts = parts;
            this.base = (long) fixed << N_SHIFT | code;
            this.key = packed(text);
        }

        private static long packed(String letters) {
            long key = 0;
            for (int i = 0; i < letters.length(); i++) {
                key = key << 8 | letters.charAt(i);
            }
            return key;
        }

        static Op named(long key) {
            for (int i = 0; i < OPS.length; i++) {
                if (OPS[i].key == key) {
                    return OPS[i];
                }
            }
            return null;
        }

        /** The Op whose TEXT makes w, or null if none does. */
        static Op of(long w) {
            for (int i = 0; i < OPS.length; i++) {
                if (OPS[i].hasCodeOf(w) && OPS[i].makes(w)) {
                    return OPS[i];
                }
            }
            return null;
        }

        static int guardOf(long w) {
            return (int) (w >> GUARD_SHIFT & NIBBLE);
        }

        static boolean isGuarded(long w) {
            return (w >> GUARD_SHIFT & NIBBLE) != 0;
        }

        /** Where the field of a part begins, NONE of a SIGN. */
        static int shiftOf(char part) {
            if (part == 'd' || part == 'D') {
                return 8;
            }
            if (part == 'a' || part == 'A') {
                return 12;
            }
            if (part == 'b' || part == 'B') {
                return 16;
            }
            return part == 'q' || part == 'n' || part == 't' ? N_SHIFT : NONE;
        }

        static boolean isRegister(char part) {
            return part == 'd' || part == 'a' || part == 'b';
        }

        static boolean isPredicate(char part) {
            return part == 'D' || part == 'A' || part == 'B' || part == 'q';
        }

        static int leastOf(char part) {
            return part == 'n' ? Integer.MIN_VALUE : 0;
        }

        static int mostOf(char part) {
            if (isRegister(part)) {
                return REGISTERS - 1;
            }
            if (isPredicate(part)) {
                return PREDICATES - 1;
            }
            return part == 't' ? MOST_WORDS - 1 : Integer.MAX_VALUE;
        }

        static int fieldOf(char part, long w) {
            int shift = shiftOf(part);
            if (shift == N_SHIFT) {
                return (int) (w >> N_SHIFT);
            }
            return shift == NONE ? 0 : (int) (w >> shift & NIBBLE);
        }

        /** The bit of live's register or predicate that a part of w names. */
        private static int bitOf(char part, long w) {
            return 1 << (isPredicate(part) ? REGISTERS : 0) + fieldOf(part, w);
        }

        private boolean hasCodeOf(long w) {
            return (base & CODE) == (w & CODE);
        }

        private boolean makes(long w) {
            int guard = guardOf(w);
            if (guard > 0 && guard < PLAIN_GUARD) {
                return false;
            }
            long rest = (w ^ base) & ~(NIBBLE << GUARD_SHIFT);
            for (int i = 0; i < parts.length(); i++) {
                char part = parts.charAt(i);
                int shift = shiftOf(part);
                int value = fieldOf(part, w);
                if (shift == NONE) {
                    continue;
                }
                if (value < leastOf(part) || value > mostOf(part)) {
                    return false;
                }
                rest &= shift == N_SHIFT ? LOW_HALF : ~(NIBBLE << shift);
            }
            return rest == 0;
        }

        char amountPart() {
            return isJump() ? 't' : 'n';
        }

        boolean isJump() {
            return this == GO || this == CALL;
        }

        boolean isLast() {
            return this == EXIT || this == WORD || this == BACK;
        }

        /** What w, which this Op's TEXT makes, reads: a bit for each register and predicate. */
        int readsOf(long w) {
            int mask = isGuarded(w) ? 1 << REGISTERS + guardOf(w) % PREDICATES : 0;
            for (int i = 0; i < parts.length(); i++) {
                char part = parts.charAt(i);
                if (part == 'a' || part == 'b' || part == 'A' || part == 'B' || part == 'q') {
                    mask |= bitOf(part, w);
                }
            }
            return this == ATCAS ? mask | bitOf('d', w) : mask;
        }

        int writesOf(long w) {
            if (parts.indexOf('d') >= 0) {
                return bitOf('d', w);
            }
            return parts.indexOf('D') >= 0 ? bitOf('D', w) : 0;
        }
    }

    private static final class Tape {
        final char[] row = new char[MOST_CHARACTERS];
        int length = 0;

        boolean append(long bytes, int n) {
            if (n < 1 || n > 8 || length > MOST_CHARACTERS - n) {
                return false;
            }
            for (int i = 0; i < n; i++) {
                int c = byteOf(bytes, i);
                if (c < 32 || c > 126) {
                    return false;
                }
            }
            for (int i = n - 1; i >= 0; i--) {
                row[length] = (char) byteOf(bytes, i);
                length++;
            }
            return true;
        }

        private static int byteOf(long bytes, int i) {
            return (int) (bytes >> 8 * i & 255);
        }
    }

    /** The TOKENS of the TAPE, and the one of them that is looked at. */
    private static final class Tokens {
        private final Tape tape;
        // One more than the TAPE has characters: its end counts as a TOKEN too.
        private final int[] kinds = new int[MOST_CHARACTERS + 1];
        private final int[] places = new int[MOST_CHARACTERS + 1];
        private final long[] values = new long[MOST_CHARACTERS + 1];
        private int count = 0;
        private int at = 0;

        Tokens(Tape tape) {
            this.tape = tape;
        }

        void scan() {
            count = 0;
            int next = 0;
            for (int turn = 0; turn < MOST_CHARACTERS && next < tape.length; turn++) {
                char c = tape.row[next];
                if (isSmall(c)) {
                    next = takeName(next);
                } else if (isDigit(c)) {
                    next = takeNumber(next);
                } else {
                    if (c != ' ') {
                        put(SIGNS.indexOf(c) >= 0 ? c : NO_TOKEN, next, 0);
                    }
                    next++;
                }
            }
            put(END_OF_TAPE, tape.length, 0);
            at = 0;
        }

        int kind() {
            return at < count ? kinds[at] : END_OF_TAPE;
        }

        /** The kind of the TOKEN behind this one. */
        int follower() {
            return at + 1 < count ? kinds[at + 1] : END_OF_TAPE;
        }

        int place() {
            return at < count ? places[at] : tape.length;
        }

        /** The letters of a NAME as a long, or what a NUMBER tells. */
        long value() {
            return at < count ? values[at] : 0;
        }

        int index() {
            return at;
        }

        void goTo(int index) {
            at = Math.max(index, 0);
        }

        void advance() {
            at++;
        }

        /** The number of a register or predicate, NONE if this TOKEN is none such. */
        int numbered(char letter, int most) {
            if (kind() != NAME) {
                return NONE;
            }
            for (int i = 0; i <= most; i++) {
                if (value() == numberedKey(letter, i)) {
                    return i;
                }
            }
            return NONE;
        }

        private static long numberedKey(char letter, int i) {
            long ones = '0' + i % 10;
            if (i < 10) {
                return (long) letter << 8 | ones;
            }
            return (long) letter << 16 | (long) ('0' + i / 10) << 8 | ones;
        }

        private int takeName(int start) {
            long letters = 0;
            int next = start;
            while (next < tape.length && (isSmall(tape.row[next]) || isDigit(tape.row[next]))) {
                letters = letters << 8 | tape.row[next];
                next++;
            }
            put(next - start <= MOST_LETTERS ? NAME : NO_TOKEN, start, letters);
            return next;
        }

        private int takeNumber(int start) {
            long number = 0;
            int next = start;
            while (next < tape.length && isDigit(tape.row[next])) {
                // Digits behind the tenth are only passed over, lest the number wrap around.
                if (next - start < MOST_DIGITS) {
                    number = number * 10 + (tape.row[next] - '0');
                }
                next++;
            }
            boolean fits = next - start <= MOST_DIGITS && number <= GREATEST_NUMBER;
            put(fits ? NUMBER : NO_TOKEN, start, number);
            return next;
        }

        private void put(int kind, int place, long value) {
            if (count > MOST_CHARACTERS) {
                return;
            }
            kinds[count] = kind;
            places[count] = place;
            values[count] = value;
            count++;
        }

        private static boolean isSmall(char c) {
            return c >= 'a' && c <= 'z';
        }

        private static boolean isDigit(char c) {
            return c >= '0' && c <= '9';
        }
    }

    /** LABELS and CONSTANTS, each NAME as a long of its letters, the last one lowest. */
    private static final class Names {
        private final long[] keys = new long[MOST_NAMES];
        // Longs, for a CONSTANT may be told as 2147483648: a FAULT, but what uses it is looked at too.
        final long[] values = new long[MOST_NAMES];
        int count = 0;

        int find(long key) {
            for (int i = 0; i < count; i++) {
                if (keys[i] == key) {
                    return i;
                }
            }
            return NONE;
        }

        /** False if the NAME was told before. */
        boolean tell(long key, long value) {
            if (find(key) != NONE || count >= MOST_NAMES) {
                return false;
            }
            keys[count] = key;
            values[count] = value;
            count++;
            return true;
        }

        void become(Names other) {
            count = other.count;
            System.arraycopy(other.keys, 0, keys, 0, count);
            System.arraycopy(other.values, 0, values, 0, count);
        }
    }

    /** Makes the TAPE's TEXT into WORDS and NAMES of its own, or tells its FAULT. */
    private static final class Parser {
        private final Tokens tokens;
        private final Op[] ops = new Op[MOST_WORDS];
        // The TOKEN that begins each WORD's N, which can be told only when all LABELS are known.
        private final int[] amounts = new int[MOST_WORDS];
        final Names told = new Names();
        final long[] words = new long[MOST_WORDS];
        int count = 0;
        int faultKind = 0;
        int faultPlace = 0;

        Parser(Tape tape) {
            tokens = new Tokens(tape);
        }

        boolean parse() {
            count = 0;
            told.count = 0;
            faultKind = 0;
            faultPlace = 0;
            tokens.scan();
            boolean stands = true;
            for (int i = 0; i < MOST_CHARACTERS && stands && tokens.kind() != END_OF_TAPE; i++) {
                stands = takeStatement();
            }
            if (stands) {
                fillAmounts();
            }
            return faultKind == 0;
        }

        /** FAULT 1 at this TOKEN, in the stead of any other FAULT. */
        private boolean refuse() {
            faultKind = 1;
            faultPlace = tokens.place();
            return false;
        }

        private void noteFault(int kind, int place) {
            if (faultKind == 0 || place < faultPlace) {
                faultKind = kind;
                faultPlace = place;
            }
        }

        private boolean takeStatement() {
            if (tokens.kind() == NAME && tokens.follower() == '=') {
                return takeConstant();
            }
            for (int i = 0; i < MOST_NAMES && tokens.kind() == NAME && tokens.follower() == ':'; i++) {
                tellName(tokens.value(), tokens.place(), count);
                tokens.advance();
                tokens.advance();
            }
            if (tokens.kind() == ';') {
                return takeSign(';');
            }
            int guard = tokens.kind() == '@' ? takeGuard() : 0;
            if (guard == NONE) {
                return refuse();
            }
            return takeWord(guard) && takeSign(';');
        }

        private boolean takeConstant() {
            long key = tokens.value();
            int keyPlace = tokens.place();
            tokens.advance();
            tokens.advance();
            int start = tokens.index();
            if (!passAmount()) {
                return refuse();
            }
            tellName(key, keyPlace, amountAt(start, 'n'));
            return takeSign(';');
        }

        private void tellName(long key, int place, long value) {
            if (!told.tell(key, value)) {
                noteFault(2, place);
            }
        }

        private boolean takeSign(char sign) {
            if (tokens.kind() != sign) {
                return refuse();
            }
            tokens.advance();
            return true;
        }

        /** The field g; NONE if this TOKEN can't stand in a GUARD. */
        private int takeGuard() {
            tokens.advance();
            int kind = PLAIN_GUARD;
            if (tokens.kind() == '!') {
                kind = TURNED_GUARD;
                tokens.advance();
            }
            int p = tokens.numbered('p', PREDICATES - 1);
            if (p == NONE) {
                return NONE;
            }
            tokens.advance();
            return kind + p;
        }

        private boolean takeWord(int guard) {
            Op op = tokens.kind() == NAME ? Op.named(tokens.value()) : null;
            if (op == null) {
                return refuseNoWord(guard);
            }
            if (count >= MOST_WORDS) {
                return refuse();
            }
            tokens.advance();
            ops[count] = op;
            amounts[count] = NONE;
            long w = op.base | (long) guard << GUARD_SHIFT;
            for (int i = 0; i < op.parts.length(); i++) {
                long field = takePart(op.parts.charAt(i));
                if (field == NONE) {
                    return refuse();
                }
                w |= field;
            }
            words[count] = w;
            count++;
            return true;
        }

        private boolean refuseNoWord(int guard) {
            // Behind LABELS such a NAME could be one more LABEL: it is its = that can't stand there.
            if (guard == 0 && tokens.kind() == NAME && tokens.follower() == '=') {
                tokens.advance();
            }
            return refuse();
        }

        /** The bits that a part puts into its WORD; NONE if this TOKEN can't stand there. */
        private long takePart(char part) {
            if (part == 'n' || part == 't') {
                amounts[count] = tokens.index();
                return passAmount() ? 0 : NONE;
            }
            long field = 0;
            if (Op.shiftOf(part) != NONE) {
                int number = tokens.numbered(Op.isRegister(part) ? 'r' : 'p', Op.mostOf(part));
                field = number == NONE ? NONE : (long) number << Op.shiftOf(part);
            } else if (tokens.kind() != part) {
                field = NONE;
            }
            if (field != NONE) {
                tokens.advance();
            }
            return field;
        }

        /** Goes past an N; false, staying at the TOKEN that can't stand there, if it is none. */
        private boolean passAmount() {
            if (tokens.kind() == '-') {
                tokens.advance();
            }
            if (tokens.kind() != NAME && tokens.kind() != NUMBER) {
                return false;
            }
            tokens.advance();
            return true;
        }

        /** What the N with TOKEN start at its head is by the NAMES told so far; notes its FAULTS. */
        private long amountAt(int start, char part) {
            tokens.goTo(start);
            int place = tokens.place();
            boolean minus = tokens.kind() == '-';
            if (minus) {
                tokens.advance();
            }
            long amount = tokens.kind() == NAME ? valueOfName() : tokens.value();
            tokens.advance();
            if (minus) {
                amount = -amount;
            }
            if (amount < Op.leastOf(part) || amount > Op.mostOf(part)) {
                noteFault(3, place);
            }
            return amount;
        }

        private long valueOfName() {
            int found = told.find(tokens.value());
            if (found == NONE) {
                noteFault(2, tokens.place());
                // Within every N's bounds, so that nothing which uses it is told as a FAULT of its own.
                return 0;
            }
            return told.values[found];
        }

        private void fillAmounts() {
            for (int k = 0; k < count; k++) {
                if (amounts[k] != NONE && ops[k] != null) {
                    words[k] |= amountAt(amounts[k], ops[k].amountPart()) << N_SHIFT;
                }
            }
        }
    }

    private static final class Kernel {
        final long[] words = new long[MOST_WORDS];
        // The Op of each WORD, null of one that no TEXT makes.
        final Op[] ops = new Op[MOST_WORDS];
        // What each WORD reads, and what it surely writes, a bit for each register and predicate.
        private final int[] reads = new int[MOST_WORDS];
        private final int[] overwrites = new int[MOST_WORDS];
        int count = 0;

        boolean has(int k) {
            return k >= 0 && k < count;
        }

        /** The PLACE as one bit of 64, 0 if it is none. */
        long bitOf(int k) {
            return has(k) ? 1L << k : 0;
        }

        void put(int k, long w) {
            if (k < 0 || k > count || k >= MOST_WORDS) {
                return;
            }
            Op op = Op.of(w);
            words[k] = w;
            ops[k] = op;
            // A long that no TEXT makes has no NAME, and so is on no list of those that read or write.
            reads[k] = op == null ? 0 : op.readsOf(w);
            overwrites[k] = op == null || Op.isGuarded(w) ? 0 : op.writesOf(w);
            count = Math.max(count, k + 1);
        }

        void become(long[] others, int many) {
            count = 0;
            for (int k = 0; k < many && k < others.length; k++) {
                put(k, others[k]);
            }
        }

        int unmade() {
            int many = 0;
            for (int k = 0; k < count; k++) {
                if (ops[k] == null) {
                    many++;
                }
            }
            return many;
        }

        /** The PLACES of WORDS that read register or predicate r. */
        long readersOf(int r) {
            return having(reads, r);
        }

        /** The PLACES of WORDS without a GUARD that write it. */
        long overwritersOf(int r) {
            return having(overwrites, r);
        }

        private long having(int[] masks, int r) {
            long places = 0;
            for (int k = 0; k < count && k < masks.length; k++) {
                if ((masks[k] >> r & 1) != 0) {
                    places |= bitOf(k);
                }
            }
            return places;
        }
    }

    /** Where WAYS lead; sets of PLACES are longs, a bit for each. */
    private static final class Ways {
        private final Kernel kernel;

        Ways(Kernel kernel) {
            this.kernel = kernel;
        }

        int first(int k) {
            if (!kernel.has(k) || kernel.ops[k] == null) {
                return NONE;
            }
            if (kernel.ops[k].isJump()) {
                return Op.fieldOf('t', kernel.words[k]);
            }
            return kernel.ops[k].isLast() && !Op.isGuarded(kernel.words[k]) ? NONE : k + 1;
        }

        int second(int k) {
            if (!kernel.has(k) || kernel.ops[k] == null) {
                return NONE;
            }
            return kernel.ops[k].isJump() && Op.isGuarded(kernel.words[k]) ? k + 1 : NONE;
        }

        long fromStart() {
            return walk(0, 0);
        }

        boolean comesToRead(int k, int r) {
            // The walk comes to those that write, too, for a WORD reads ahead of its own writing.
            return (walk(k, kernel.overwritersOf(r)) & kernel.readersOf(r)) != 0;
        }

        int meetOf(int k) {
            boolean parts = second(k) != NONE && first(k) != second(k);
            if (!parts || (fromStart() & kernel.bitOf(k)) == 0 || !hasEnd(walk(k, 0))) {
                return NONE;
            }
            long through = throughAll(k);
            for (int m = 0; m < kernel.count; m++) {
                long bit = kernel.bitOf(m);
                if ((through & bit) != 0 && (walk(k, bit) & through) == bit) {
                    return m;
                }
            }
            return NONE;
        }

        /** The PLACES but k without which no WAYS from k come to an END. */
        private long throughAll(int k) {
            long through = 0;
            for (int m = 0; m < kernel.count; m++) {
                long bit = kernel.bitOf(m);
                if (m != k && !hasEnd(walk(k, bit) & ~bit)) {
                    through |= bit;
                }
            }
            return through;
        }

        /** The PLACES that WAYS from start come to, start too, not going on from those of stops. */
        private long walk(int start, long stops) {
            long seen = kernel.bitOf(start);
            long open = seen & ~stops;
            // Each turn closes a PLACE, and none is opened twice.
            for (int turn = 0; turn < MOST_WORDS && open != 0; turn++) {
                long lowest = open & -open;
                int k = Long.bitCount(lowest - 1);
                long fresh = (kernel.bitOf(first(k)) | kernel.bitOf(second(k))) & ~seen;
                seen |= fresh;
                open = (open ^ lowest) | (fresh & ~stops);
            }
            return seen;
        }

        private boolean hasEnd(long places) {
            for (int k = 0; k < kernel.count; k++) {
                if ((places & kernel.bitOf(k)) != 0 && isEnd(k)) {
                    return true;
                }
            }
            return false;
        }

        /** Whether PLACE k is an END or has one behind it. */
        private boolean isEnd(int k) {
            boolean outside = second(k) != NONE && !kernel.has(second(k));
            return outside || !kernel.has(first(k));
        }
    }

    /** Makes longs into TEXTS. */
    private static final class Speller {
        private final StringBuilder text = new StringBuilder();

        int letterOf(Op op, long w, int i) {
            text.setLength(0);
            if (op == null) {
                text.append('?');
            } else {
                spellGuard(Op.guardOf(w));
                text.append(op.text);
                spellParts(op, w);
            }
            text.append(';');
            return i >= 0 && i < text.length() ? text.charAt(i) : NONE;
        }

        private void spellGuard(int guard) {
            if (guard == 0) {
                return;
            }
            text.append('@');
            if (guard >= TURNED_GUARD) {
                text.append('!');
            }
            text.append('p');
            text.append(guard % PREDICATES);
            text.append(' ');
        }

        private void spellParts(Op op, long w) {
            if (!op.parts.isEmpty()) {
                text.append(' ');
            }
            for (int i = 0; i < op.parts.length(); i++) {
                char part = op.parts.charAt(i);
                if (Op.shiftOf(part) == NONE) {
                    text.append(part);
                    continue;
                }
                if (Op.isRegister(part)) {
                    text.append('r');
                } else if (Op.isPredicate(part)) {
                    text.append('p');
                }
                text.append(Op.fieldOf(part, w));
            }
        }
    }
}
