import java.util.ArrayList;
import java.util.Arrays;
import java.util.BitSet;
import java.util.HashMap;
import java.util.LinkedHashMap;
import java.util.List;
import java.util.Map;
import java.util.TreeMap;
import java.util.regex.Matcher;
import java.util.regex.Pattern;

/**
 * A second KernelText, written another way so that both seldom have the same fault: what can stand
 * at a token is a list of all that may follow, a long's text is one that makes it when compiled
 * again, and live and meet come from sets that are made smaller or larger until nothing changes.
 */
final class Model {
    record Form(String name, int op, int n, String shape, String fields) { }

    record Token(String text, int place) {
        boolean isName() {
            return text.matches("[a-z][a-z0-9]{0,7}");
        }

        boolean isNumber() {
            return text.matches("[0-9]{1,10}") && Long.parseLong(text) <= 2147483648L;
        }
    }

    static final Map<String, Form> FORMS = forms();

    final List<Long> words = new ArrayList<>();
    Map<String, Long> names = new HashMap<>();
    int faultKind = 0;
    int faultPlace = 0;

    private static Map<String, Form> forms() {
        Map<String, Form> forms = new LinkedHashMap<>();
        group(forms, "", "", "exit 0 sync 1");
        group(forms, "N", "n", "word 0 go 40");
        group(forms, "r,N", "dn", "set 2 call 41");
        group(forms, "r,r,r", "dab", "add 4 sub 5 mul 6 div 7 rem 8 and 9 or 10 xor 11 shl 12 shr 13 "
            + "sar 14 min 15 max 16 high 17");
        group(forms, "r,r,N", "dan", "addn 18 muln 19 andn 20 swap 73");
        group(forms, "r,r,r,p", "dabn", "pick 21");
        group(forms, "r", "d", "tid 3 bid 3 size 3 grid 3 lane 3 warp 3 wide 3");
        group(forms, "p,r,r", "dab", "less 30 same 31");
        group(forms, "p,r,N", "dan", "lessn 32 samen 33");
        group(forms, "p,p,p", "dab", "both 34 either 35");
        group(forms, "p,p", "da", "not 36 any 70 all 71");
        group(forms, "r,p", "da", "count 72");
        group(forms, "r", "a", "back 42");
        group(forms, "r,(r+N)", "dan", "load 50 loads 52");
        group(forms, "(r+N),r", "anb", "store 51 stores 53");
        group(forms, "r,(r+N),r", "danb", "atadd 54 atmax 55 atswap 56 atcas 57 sadd 58 sswap 59");
        return forms;
    }

    private static void group(Map<String, Form> forms, String shape, String fields, String list) {
        String[] parts = list.split(" ");
        for (int i = 0; i < parts.length; i += 2) {
            int op = Integer.parseInt(parts[i + 1]);
            forms.put(parts[i], new Form(parts[i], op, op == 3 ? i / 2 : 0, shape, fields));
        }
    }

    // ---- texts to words

    /** How many words; -1 if there is a fault. */
    int compile(String tape) {
        List<Token> tokens = new ArrayList<>();
        Matcher m = Pattern.compile("[a-z][a-z0-9]*|[0-9]+|[^ ]").matcher(tape);
        while (m.find()) {
            tokens.add(new Token(m.group(), m.start()));
        }
        tokens.add(new Token("", tape.length()));
        int bad = firstThatCantStand(tokens);
        faultKind = 0;
        faultPlace = 0;
        if (bad >= 0) {
            faultKind = 1;
            faultPlace = tokens.get(bad).place();
            return -1;
        }
        return build(tokens);
    }

    private static List<List<String>> labelled() {
        List<List<String>> lists = new ArrayList<>();
        lists.add(List.of("name", ":", "LABELLED"));
        lists.add(List.of(";"));
        lists.addAll(worded());
        lists.add(List.of("@", "p", "WORDED"));
        lists.add(List.of("@", "!", "p", "WORDED"));
        return lists;
    }

    private static List<List<String>> worded() {
        List<List<String>> lists = new ArrayList<>();
        for (Form form : FORMS.values()) {
            List<String> list = new ArrayList<>(List.of("=" + form.name()));
            for (char c : form.shape().toCharArray()) {
                list.add(String.valueOf(c));
            }
            list.add(";");
            lists.add(list);
        }
        return lists;
    }

    private static boolean stands(String wanted, Token t) {
        switch (wanted) {
            case "name":
                return t.isName();
            case "amount":
                return t.isName() || t.isNumber();
            case "r":
                return t.text().matches("r([0-9]|1[0-5])");
            case "p":
                return t.text().matches("p[0-3]");
            default:
                return t.text().equals(wanted.length() > 1 ? wanted.substring(1) : wanted);
        }
    }

    private static List<List<String>> behind(List<List<String>> lists, Token t) {
        List<List<String>> rest = new ArrayList<>();
        for (List<String> list : lists) {
            if (list.get(0).equals("N")) {
                if (t.text().equals("-")) {
                    List<String> more = new ArrayList<>(list);
                    more.set(0, "amount");
                    rest.add(more);
                } else if (stands("amount", t)) {
                    rest.add(list.subList(1, list.size()));
                }
            } else if (stands(list.get(0), t)) {
                List<String> more = list.subList(1, list.size());
                if (more.equals(List.of("LABELLED"))) {
                    rest.addAll(labelled());
                } else if (more.equals(List.of("WORDED"))) {
                    rest.addAll(worded());
                } else {
                    rest.add(more);
                }
            }
        }
        return rest;
    }

    private static int firstThatCantStand(List<Token> tokens) {
        List<List<String>> start = labelled();
        start.add(List.of("name", "=", "N", ";"));
        List<List<String>> now = start;
        int words = 0;
        for (int i = 0; i < tokens.size(); i++) {
            Token t = tokens.get(i);
            if (t.text().isEmpty()) {
                return now == start ? -1 : i;
            }
            boolean wordCan = now.stream().anyMatch(list -> list.get(0).equals("=exit"));
            boolean marked = tokens.get(i + 1).text().matches("[:=]");
            if (wordCan && t.isName() && !marked && !FORMS.containsKey(t.text())) {
                return i;
            }
            boolean onlyWord = now.stream().noneMatch(list -> list.get(0).equals("name"));
            if (wordCan && t.isName() && FORMS.containsKey(t.text()) && (onlyWord || !marked)) {
                words++;
                if (words > 64) {
                    return i;
                }
            }
            now = behind(now, t);
            if (now.isEmpty()) {
                return i;
            }
            if (t.text().equals(";")) {
                now = start;
            }
        }
        return tokens.size() - 1;
    }

    private int build(List<Token> tokens) {
        TreeMap<Integer, Integer> faults = new TreeMap<>();
        Map<String, Long> told = new HashMap<>();
        List<List<Token>> plain = new ArrayList<>();
        List<Token> statement = new ArrayList<>();
        for (Token t : tokens) {
            if (!t.text().equals(";")) {
                statement.add(t);
                continue;
            }
            if (statement.size() > 1 && statement.get(1).text().equals("=")) {
                long n = amount(statement.subList(2, statement.size()), told, faults, false);
                tell(statement.get(0), n, told, faults);
                statement.clear();
            }
            while (statement.size() > 1 && statement.get(1).text().equals(":")) {
                tell(statement.get(0), plain.size(), told, faults);
                statement.subList(0, 2).clear();
            }
            if (!statement.isEmpty()) {
                plain.add(statement);
            }
            statement = new ArrayList<>();
        }
        List<Long> made = new ArrayList<>();
        for (List<Token> s : plain) {
            made.add(assemble(s, told, faults));
        }
        if (!faults.isEmpty()) {
            faultPlace = faults.firstKey();
            faultKind = faults.get(faultPlace);
            return -1;
        }
        words.clear();
        words.addAll(made);
        names = told;
        return words.size();
    }

    private static void tell(Token name, long n, Map<String, Long> told, Map<Integer, Integer> faults) {
        if (told.containsKey(name.text())) {
            faults.put(name.place(), 2);
        } else {
            told.put(name.text(), n);
        }
    }

    private static long amount(List<Token> n, Map<String, Long> told, Map<Integer, Integer> faults,
            boolean jump) {
        Token last = n.get(n.size() - 1);
        if (last.isName() && !told.containsKey(last.text())) {
            faults.put(last.place(), 2);
            return 0;
        }
        long value = last.isName() ? told.get(last.text()) : Long.parseLong(last.text());
        value = n.size() == 2 ? -value : value;
        boolean wide = value < Integer.MIN_VALUE || value > Integer.MAX_VALUE;
        if (wide || jump && (value < 0 || value > 63)) {
            faults.put(n.get(0).place(), 3);
        }
        return value;
    }

    private static long assemble(List<Token> s, Map<String, Long> told, Map<Integer, Integer> faults) {
        int at = 0;
        long w = 0;
        if (s.get(0).text().equals("@")) {
            boolean turned = s.get(1).text().equals("!");
            at = turned ? 3 : 2;
            int p = s.get(at - 1).text().charAt(1) - '0';
            w = (turned ? 12L + p : 8L + p) << 20;
        }
        Form form = FORMS.get(s.get(at).text());
        at++;
        w |= form.op() | (long) form.n() << 32;
        int field = 0;
        for (char c : form.shape().toCharArray()) {
            int from = at;
            at++;
            long value;
            if (c == 'N') {
                at += s.get(from).text().equals("-") ? 1 : 0;
                value = amount(s.subList(from, at), told, faults, form.op() == 40 || form.op() == 41);
            } else if (c == 'r' || c == 'p') {
                value = Long.parseLong(s.get(from).text().substring(1));
            } else {
                continue;
            }
            int shift = new int[] {8, 12, 16, 32}["dabn".indexOf(form.fields().charAt(field))];
            w |= value << shift;
            field++;
        }
        return w;
    }

    // ---- words to texts

    static String spelled(long w) {
        for (Form form : FORMS.values()) {
            if (form.op() == (w & 255)) {
                Model again = new Model();
                String text = guess(form, w);
                if (again.compile(text) == 1 && again.words.get(0) == w) {
                    return text;
                }
            }
        }
        return "?;";
    }

    private static String guess(Form form, long w) {
        int g = (int) (w >> 20 & 15);
        String text = g == 0 ? "" : "@" + (g >= 12 ? "!" : "") + "p" + (g & 3) + " ";
        text += form.name() + (form.shape().isEmpty() ? "" : " ");
        int field = 0;
        for (char c : form.shape().toCharArray()) {
            if (c != 'N' && c != 'r' && c != 'p') {
                text += c;
                continue;
            }
            char f = form.fields().charAt(field);
            field++;
            int value = f == 'n' ? (int) (w >> 32) : (int) (w >> 8 + 4 * "dab".indexOf(f) & 15);
            text += (c == 'N' ? "" : String.valueOf(c)) + value;
        }
        return text + ";";
    }

    // ---- ways

    static List<Integer> ways(long w, int k) {
        String text = spelled(w);
        boolean guarded = text.startsWith("@");
        String plain = guarded ? text.substring(text.indexOf(' ') + 1) : text;
        String name = plain.split("[ ;]")[0];
        List<Integer> ways = new ArrayList<>();
        if (name.equals("?")) {
            return ways;
        }
        boolean jump = name.equals("go") || name.equals("call");
        boolean last = name.equals("exit") || name.equals("word") || name.equals("back");
        if (jump) {
            ways.add((int) (w >> 32));
        }
        if (!jump && !last || guarded) {
            ways.add(k + 1);
        }
        return ways;
    }

    private List<List<Integer>> allWays() {
        List<List<Integer>> all = new ArrayList<>();
        for (int k = 0; k < words.size(); k++) {
            all.add(ways(words.get(k), k));
        }
        return all;
    }

    boolean[] reached() {
        List<List<Integer>> ways = allWays();
        boolean[] in = new boolean[words.size()];
        for (int turn = 0; turn <= in.length; turn++) {
            for (int k = 0; k < in.length; k++) {
                if (k == 0) {
                    in[k] = true;
                }
                for (int to : ways.get(k)) {
                    if (in[k] && to < in.length) {
                        in[to] = true;
                    }
                }
            }
        }
        return in;
    }

    private static boolean among(int op, int... ranges) {
        for (int i = 0; i < ranges.length; i += 2) {
            if (op >= ranges[i] && op <= ranges[i + 1]) {
                return true;
            }
        }
        return false;
    }

    private static BitSet reads(long w) {
        BitSet set = new BitSet();
        if (spelled(w).equals("?;")) {
            return set;
        }
        int op = (int) (w & 255);
        int d = (int) (w >> 8 & 15);
        int a = (int) (w >> 12 & 15);
        int b = (int) (w >> 16 & 15);
        int g = (int) (w >> 20 & 15);
        if (g != 0) {
            set.set(16 + (g & 3));
        }
        if (among(op, 4, 21, 30, 33, 50, 59, 73, 73, 42, 42)) {
            set.set(a);
        }
        if (among(op, 4, 17, 21, 21, 30, 31, 51, 51, 53, 59)) {
            set.set(b);
        }
        if (op == 57) {
            set.set(d);
        }
        if (op == 21) {
            set.set(16 + (int) (w >> 32));
        }
        if (among(op, 34, 36, 70, 72)) {
            set.set(16 + a);
        }
        if (among(op, 34, 35)) {
            set.set(16 + b);
        }
        return set;
    }

    private static BitSet overwrites(long w) {
        BitSet set = new BitSet();
        int op = (int) (w & 255);
        int d = (int) (w >> 8 & 15);
        if ((w >> 20 & 15) != 0 || spelled(w).equals("?;")) {
            return set;
        }
        if (among(op, 2, 21, 41, 41, 50, 50, 52, 52, 54, 59, 72, 73)) {
            set.set(d);
        }
        if (among(op, 30, 36, 70, 71)) {
            set.set(16 + d);
        }
        return set;
    }

    BitSet[] live() {
        List<List<Integer>> ways = allWays();
        BitSet[] live = new BitSet[words.size()];
        for (int k = 0; k < live.length; k++) {
            live[k] = reads(words.get(k));
        }
        boolean changed = true;
        while (changed) {
            changed = false;
            for (int k = live.length - 1; k >= 0; k--) {
                BitSet now = new BitSet();
                for (int to : ways.get(k)) {
                    if (to < live.length) {
                        now.or(live[to]);
                    }
                }
                now.andNot(overwrites(words.get(k)));
                now.or(live[k]);
                changed |= !now.equals(live[k]);
                live[k] = now;
            }
        }
        return live;
    }

    int[] meets() {
        List<List<Integer>> ways = allWays();
        int many = words.size();
        boolean[] in = reached();
        boolean[] ends = new boolean[many];
        BitSet[] after = new BitSet[many];
        for (int turn = 0; turn <= many; turn++) {
            for (int k = 0; k < many; k++) {
                ends[k] |= ways.get(k).isEmpty();
                for (int to : ways.get(k)) {
                    ends[k] |= to >= many || ends[to];
                }
            }
        }
        for (int k = 0; k < many; k++) {
            after[k] = new BitSet();
            after[k].set(0, many);
        }
        for (int turn = 0; turn <= many; turn++) {
            for (int k = many - 1; k >= 0; k--) {
                BitSet now = new BitSet();
                now.set(0, ways.get(k).isEmpty() ? 0 : many);
                for (int to : ways.get(k)) {
                    if (to >= many) {
                        now.clear();
                    } else if (ends[to]) {
                        now.and(after[to]);
                    }
                }
                now.set(k);
                after[k] = now;
            }
        }
        int[] meets = new int[many];
        Arrays.fill(meets, -1);
        for (int k = 0; k < many; k++) {
            if (!in[k] || !ends[k] || ways.get(k).stream().distinct().count() < 2) {
                continue;
            }
            BitSet rest = (BitSet) after[k].clone();
            rest.clear(k);
            for (int m = rest.nextSetBit(0); m >= 0; m = rest.nextSetBit(m + 1)) {
                if (after[m].equals(rest)) {
                    meets[k] = m;
                }
            }
        }
        return meets;
    }
}
