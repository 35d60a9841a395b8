import java.util.ArrayList;
import java.util.BitSet;
import java.util.List;
import java.util.Map;
import java.util.Random;

/** Compares the class with Model over made-up texts and kernels, always the same ones. */
public final class ModelTest {
    private static final List<Model.Form> FORMS = new ArrayList<>(Model.FORMS.values());
    private static final Due CHECK = new Due();

    public static void main(String[] args) {
        Random dice = new Random(20261115);
        for (int i = 0; i < 6000; i++) {
            compareText(text(dice), i % 3 == 0);
        }
        for (int i = 0; i < 40000; i++) {
            compareText(spoilt(text(dice), dice), false);
        }
        for (int i = 0; i < 3000; i++) {
            compareKernel(dice);
        }
        for (int i = 0; i < 60000; i++) {
            compareSpelling(long64(dice));
        }
        CHECK.end();
    }

    private static void compareText(String text, boolean whole) {
        KernelText x = new KernelText();
        Model model = new Model();
        int want = model.compile(text);
        String call = "compile of " + text;
        CHECK.due(call, Due.compile(x, text), want);
        CHECK.due(call + ": fault(0)", x.fault(0), model.faultKind);
        CHECK.due(call + ": fault(1)", x.fault(1), model.faultPlace);
        CHECK.due(call + ": total(0)", x.total(0), model.words.size());
        CHECK.due(call + ": total(2)", x.total(2), model.names.size());
        for (int k = 0; k < model.words.size(); k++) {
            CHECK.due(call + ": word " + k, Due.wordOf(x, k), Long.toString(model.words.get(k)));
        }
        for (Map.Entry<String, Long> name : model.names.entrySet()) {
            String key = name.getKey();
            CHECK.due(call + ": " + key, Due.nameOf(x, Due.packed(key)), name.getValue().toString());
        }
        if (whole) {
            compareAll(x, model, call);
        }
    }

    private static void compareKernel(Random dice) {
        KernelText x = new KernelText();
        Model model = new Model();
        int many = dice.nextInt(10) == 0 ? 64 : 1 + dice.nextInt(14);
        boolean odd = dice.nextInt(3) == 0;
        for (int k = 0; k < many; k++) {
            long w = odd && dice.nextInt(6) == 0 ? long64(dice) : branchy(dice, many);
            x.set(k, w);
            model.words.add(w);
        }
        compareAll(x, model, "kernel " + model.words);
    }

    private static void compareAll(KernelText x, Model model, String call) {
        boolean[] reached = model.reached();
        BitSet[] live = model.live();
        int[] meets = model.meets();
        int many = 0;
        int unmade = 0;
        for (int k = 0; k < reached.length; k++) {
            long w = model.words.get(k);
            List<Integer> ways = Model.ways(w, k);
            CHECK.due(call + ": way " + k + " 0", x.way(k, 0), ways.size() > 0 ? ways.get(0) : -1);
            CHECK.due(call + ": way " + k + " 1", x.way(k, 1), ways.size() > 1 ? ways.get(1) : -1);
            CHECK.due(call + ": reached " + k, x.reached(k), reached[k]);
            CHECK.due(call + ": meet " + k, x.meet(k), meets[k]);
            for (int r = 0; r < 20; r++) {
                CHECK.due(call + ": live " + k + " " + r, x.live(k, r), live[k].get(r));
            }
            String spelled = Model.spelled(w);
            CHECK.due(call + ": text " + k, Due.spelled(x, k), spelled);
            many += reached[k] ? 1 : 0;
            unmade += spelled.equals("?;") ? 1 : 0;
        }
        CHECK.due(call + ": total(1)", x.total(1), many);
        CHECK.due(call + ": total(3)", x.total(3), unmade);
    }

    private static void compareSpelling(long w) {
        KernelText x = new KernelText();
        x.set(0, w);
        CHECK.due("text of " + w, Due.spelled(x, 0), Model.spelled(w));
    }

    /** A long that is often a word, or nearly one. */
    private static long long64(Random dice) {
        if (dice.nextInt(20) == 0) {
            return dice.nextLong();
        }
        Model.Form form = FORMS.get(dice.nextInt(FORMS.size()));
        int op = dice.nextInt(20) == 0 ? dice.nextInt(256) : form.op();
        int small = dice.nextInt(3) == 0 ? 16 : 4;
        int d = some(dice, form, 'd', small);
        int a = some(dice, form, 'a', small);
        int b = some(dice, form, 'b', small);
        int g = dice.nextInt(2) == 0 ? 0 : dice.nextInt(8) == 0 ? dice.nextInt(16) : 8 + dice.nextInt(8);
        int n = form.fields().indexOf('n') >= 0 || dice.nextInt(6) == 0 ? number(dice) : form.n();
        long high = dice.nextInt(20) == 0 ? (long) dice.nextInt(256) << 24 : 0;
        return Due.bits(op, d, a, b, g, n) | high;
    }

    private static int some(Random dice, Model.Form form, char field, int below) {
        return form.fields().indexOf(field) >= 0 || dice.nextInt(12) == 0 ? dice.nextInt(below) : 0;
    }

    private static int number(Random dice) {
        int[] edges = {0, 1, 2, 3, 4, 6, 7, 63, 64, -1, Integer.MIN_VALUE, Integer.MAX_VALUE};
        return dice.nextInt(3) == 0 ? dice.nextInt() : edges[dice.nextInt(edges.length)];
    }

    /** A word of few registers that often goes elsewhere. */
    private static long branchy(Random dice, int many) {
        int g = dice.nextInt(3) == 0 ? 0 : 8 + dice.nextInt(8);
        int to = dice.nextInt(12) == 0 ? 63 : dice.nextInt(Math.min(many + 2, 64));
        switch (dice.nextInt(8)) {
            case 0:
            case 1:
            case 2:
                return Due.bits(40, 0, 0, 0, g, to);
            case 3:
                return Due.bits(41, dice.nextInt(3), 0, 0, g, to);
            case 4:
                return dice.nextBoolean() ? Due.bits(0, 0, 0, 0, g, 0) : Due.bits(42, 0, dice.nextInt(3), 0, g, 0);
            default:
                Model.Form form = FORMS.get(dice.nextInt(FORMS.size()));
                int d = some(dice, form, 'd', 3);
                int a = some(dice, form, 'a', 3);
                int b = some(dice, form, 'b', 3);
                int n = form.fields().indexOf('n') >= 0 ? dice.nextInt(4) : form.n();
                return Due.bits(form.op(), d, a, b, dice.nextInt(3) == 0 ? g : 0, n);
        }
    }

    private static String text(Random dice) {
        StringBuilder text = new StringBuilder();
        int statements = dice.nextInt(12) == 0 ? 70 : dice.nextInt(9);
        for (int i = 0; i < statements; i++) {
            String next = statement(dice, statements > 20);
            if (text.length() + next.length() <= 690) {
                text.append(next);
            }
        }
        return text.toString();
    }

    private static String statement(Random dice, boolean brief) {
        String gap = dice.nextInt(4) == 0 ? " " : "";
        if (!brief && dice.nextInt(5) == 0) {
            return name(dice) + gap + "=" + gap + amount(dice, false) + ";" + gap;
        }
        StringBuilder s = new StringBuilder();
        while (dice.nextInt(4) == 0) {
            s.append(name(dice)).append(gap).append(':').append(gap);
        }
        if (dice.nextInt(15) == 0) {
            return s + ";";
        }
        if (dice.nextInt(brief ? 20 : 4) == 0) {
            s.append('@').append(gap).append(dice.nextBoolean() ? "!" : "").append('p').append(dice.nextInt(4));
            s.append(' ');
        }
        Model.Form form = brief ? FORMS.get(dice.nextInt(2)) : FORMS.get(dice.nextInt(FORMS.size()));
        s.append(form.name()).append(form.shape().isEmpty() ? "" : " ");
        for (char c : form.shape().toCharArray()) {
            if (c == 'r') {
                s.append('r').append(dice.nextInt(16));
            } else if (c == 'p') {
                s.append('p').append(dice.nextInt(4));
            } else if (c == 'N') {
                s.append(amount(dice, form.name().equals("go") || form.name().equals("call")));
            } else {
                s.append(c).append(gap);
            }
        }
        return s.append(gap).append(';').append(gap).toString();
    }

    private static String name(Random dice) {
        String[] names = {"a", "b", "c", "x1", "loop", "exit", "r1", "p0", "abcdefgh", "n", "word", "z9", "q", "u"};
        return names[dice.nextInt(names.length)];
    }

    private static String amount(Random dice, boolean jump) {
        String sign = dice.nextInt(jump ? 20 : 4) == 0 ? "-" : "";
        if (dice.nextInt(4) == 0) {
            return sign + name(dice);
        }
        if (dice.nextInt(jump ? 12 : 5) == 0) {
            String[] edges = {"2147483648", "2147483647", "0000000007", "63", "64", "0"};
            return sign + edges[dice.nextInt(edges.length)];
        }
        return sign + dice.nextInt(jump ? 12 : 1000);
    }

    private static String spoilt(String text, Random dice) {
        String[] odd = {";", ":", ",", "@", "!", "=", "-", "(", ")", "+", " ", "r16", "p4", "r1", "p1", "5", "A",
            "#", "x", "2147483649", "12345678901", "abcdefghi", "nope", " exit ", " a:", " b=", "~", "@p2 "};
        StringBuilder s = new StringBuilder(text);
        int times = 1 + dice.nextInt(2);
        for (int i = 0; i < times; i++) {
            int at = dice.nextInt(s.length() + 1);
            int until = Math.min(s.length(), at + dice.nextInt(3));
            int what = dice.nextInt(4);
            if (what == 0) {
                s.delete(at, until);
            } else if (what == 1 && s.length() < 680) {
                s.insert(at, odd[dice.nextInt(odd.length)]);
            } else if (what == 2 && s.length() < 680) {
                s.replace(at, until, odd[dice.nextInt(odd.length)]);
            } else if (dice.nextInt(4) == 0) {
                s.setLength(at);
            }
        }
        return s.toString();
    }
}
