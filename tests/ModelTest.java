import java.util.ArrayList;
import java.util.List;

/** Long runs of calls, by a fixed row of numbers, on the class and on the model: every answer must be the same. */
public final class ModelTest extends Checks {
    private static long seed;

    private static int pick(int n) {
        seed = seed * 6364136223846793005L + 1442695040888963407L;
        return (int) ((seed >>> 33) % n);
    }

    private static boolean chance(int percent) {
        return pick(100) < percent;
    }

    /** Mostly 0 .. n-1, at times a number beside them. */
    private static int about(int n) {
        return chance(6) ? pick(3) == 0 ? Integer.MIN_VALUE : pick(2) == 0 ? Integer.MAX_VALUE : n + pick(2)
            : chance(4) ? -1 - pick(2) : pick(Math.max(n, 1));
    }

    private static String number() {
        return chance(30) ? "" + pick(10) + pick(10) : "" + pick(4);
    }

    private static String test() {
        char letter = "ayowsuxbhqoyaq".charAt(pick(14));
        String n = "ayo".indexOf(letter) >= 0 ? "" + pick(100) : chance(90) ? "" + pick(3) : number();
        return "" + letter + "<=>".charAt(pick(3)) + n;
    }

    private static String single(int within) {
        if (within < 5 && chance(12)) return "!" + single(within + 1);
        if (within < 5 && chance(12)) return "(" + any(within + 1) + ")";
        return test();
    }

    private static String any(int within) {
        StringBuilder b = new StringBuilder(single(within));
        while (chance(28)) b.append(chance(50) ? '|' : '&').append(single(within));
        return b.toString();
    }

    private static String divisor() {
        return chance(4) ? chance(50) ? "0" : "00" : chance(10) ? "0" + (1 + pick(9)) : "" + (1 + pick(20));
    }

    private static String clause() {
        switch (pick(13)) {
            case 0: return "free " + any(0);
            case 1: return "bind " + any(0);
            case 2: return "bar " + any(0);
            case 3: return "over " + any(0);
            case 4: case 5: return "roll " + any(0);
            case 6: return "lose " + number() + " " + divisor();
            case 7: return "both " + number() + " " + divisor();
            case 8: return "least " + number();
            default: return "oath " + "poghct".charAt(pick(6)) + " " + any(0);
        }
    }

    /** Narrow oaths and a wide roll, so that claims are rolled; some refusing that costs. */
    private static String rolling() {
        StringBuilder b = new StringBuilder();
        for (int k = pick(2); k >= 0; k--) {
            b.append("oath ").append("poghct".charAt(pick(6))).append(' ').append(test());
            if (chance(30)) b.append('&').append(test());
            b.append(';');
        }
        b.append("roll ").append(chance(60) ? "a>" + pick(9) : test());
        if (chance(60)) b.append(";lose ").append(pick(5)).append(' ').append(1 + pick(5));
        if (chance(40)) b.append(";both ").append(pick(5)).append(' ').append(1 + pick(7));
        if (chance(40)) b.append(";over ").append(test());
        if (chance(40)) b.append(";bar ").append(chance(60) ? "q=" + pick(3) : test());
        if (chance(25)) b.append(";least ").append(pick(8));
        return b.toString();
    }

    private static String text() {
        if (chance(45)) return rolling();
        StringBuilder b = new StringBuilder(clause());
        while (chance(78)) b.append(';').append(clause());
        if (b.length() > 100 && chance(90)) b.setLength(Math.max(b.lastIndexOf(";", 100), 1));
        if (chance(15) && b.length() > 0) {
            int at = pick(b.length());
            switch (pick(4)) {
                case 0: b.setCharAt(at, "ab;|&!()<=>0123456789 qz".charAt(pick(24))); break;
                case 1: b.insert(at, "(!0 ;&a".charAt(pick(7))); break;
                case 2: b.deleteCharAt(at); break;
                default: b.setLength(at); break;
            }
        }
        return b.toString();
    }

    private static void same(String call, long got, long want) {
        due(call, got, want);
    }

    private static int feedBoth(WhoMustSwear x, Model m, String text) {
        int calls = 0;
        for (int k = 0; k < text.length(); ) {
            int n = Math.min(4, text.length() - k);
            int word = 0;
            for (int i = 0; i < n; i++) word = word << 8 | text.charAt(k + i);
            same("feed", x.feed(word, n), m.feed(word, n));
            k += n;
            calls++;
        }
        same("law " + text, x.law(), m.law());
        return calls + 1;
    }

    private static void change(WhoMustSwear x, Model m) {
        int claim = about(m.claims.size());
        switch (pick(12)) {
            case 0: {
                int p = about(8), b = chance(50) ? pick(3) : about(32);
                same("known", x.known(p, b), m.known(p, b));
                break;
            }
            case 1: case 2: {
                int p = about(3), d = about(3), l = about(m.laws.size());
                same("suit", x.suit(p, d, l), m.suit(p, d, l));
                break;
            }
            case 3: case 4: case 5: {
                int s = about(m.suits.size()), sum = chance(50) ? about(100) : about(20), sort = about(3);
                same("claim", x.claim(s, sum, sort), m.claim(s, sum, sort));
                break;
            }
            case 6: case 7: {
                int n = chance(50) ? about(8) : about(100);
                boolean so = chance(60);
                same("answer", x.answer(claim, n, so), m.answer(claim, n, so));
                break;
            }
            case 8: case 9: {
                int what = about(4), n = about(what == 0 ? 4 : 2);
                same("proof", x.proof(claim, what, n), m.proof(claim, what, n));
                break;
            }
            case 10: {
                int n = chance(40) ? about(8) : about(100);
                same("truth", x.truth(claim, n), m.truth(claim, n));
                break;
            }
            default:
                if (chance(60)) same("image", x.image(), m.image());
                else same("undo", x.undo(), m.undo());
                break;
        }
    }

    private static void ask(WhoMustSwear x, Model m) {
        int claim = about(m.claims.size());
        int suit = about(m.suits.size());
        int part = about(2);
        switch (pick(17)) {
            case 0: { int w = about(10); same("of", x.of(claim, w), m.of(claim, w)); break; }
            case 1: same("comes", x.comes(claim), m.comes(claim)); break;
            case 2: case 3: { int w = about(3); same("due " + w, x.due(claim, w), m.due(claim, w)); break; }
            case 4: case 5: { boolean so = chance(40); same("paid", x.paid(claim, so, part), m.paid(claim, so, part)); break; }
            case 6: { int ch = about(1 << m.claimsOf(suit).size()); same("all", x.all(suit, ch, part), m.all(suit, ch, part)); break; }
            case 7: case 8: { int w = about(3); same("ends " + w, x.ends(suit, w, part), m.ends(suit, w, part)); break; }
            case 9: same("truly", x.truly(suit), m.truly(suit)); break;
            case 10: { int w = about(2); same("rolled", x.rolled(suit, w), m.rolled(suit, w)); break; }
            case 11: same("wise", x.wise(claim), m.wise(claim)); break;
            case 12: { int o = about(m.suits.size()); same("off", x.off(suit, o, part), m.off(suit, o, part)); break; }
            case 13: { int a = about(m.laws.size()), b = about(m.laws.size()); same("beside", x.beside(claim, a, b), m.beside(claim, a, b)); break; }
            case 14: { int a = about(m.laws.size()), b = about(m.laws.size()); same("ways", x.ways(claim, a, b), m.ways(claim, a, b)); break; }
            case 15: { int w = about(5); same("count", x.count(w), m.count(w)); break; }
            default:
                if (chance(20) && (m.claimsOf(suit).size() < 4 || chance(20))) {
                    int i = about(5) - 1;
                    same("best " + i, x.best(suit, i), m.best(suit, i));
                    same("slips", x.slips(suit), m.slips(suit));
                }
                break;
        }
    }

    private static void host(WhoMustSwear x, Model m) {
        int t = about(6), o = about(6), i = about(6), j = about(6);
        switch (pick(9)) {
            case 0: { int s = chance(50) ? 0 : about(5), n = chance(80) ? pick(8) : about(61); same("tape", x.tape(t, s, n), m.tape(t, s, n)); break; }
            case 1: case 2: { long v = chance(60) ? pick(6) : seed ^ pick(5); same("item", x.item(t, i, v), m.item(t, i, v)); break; }
            case 3: same("read", x.read(t, i), m.read(t, i)); break;
            case 4: { int n = about(4); same("shift", x.shift(t, i, o, j, n), m.shift(t, i, o, j, n)); break; }
            case 5: { int s = about(m.suits.size()); same("judge", x.judge(t, i, s), m.judge(t, i, s)); break; }
            case 6: { int k = about(7), a = about(3), n = chance(20) ? (int) seed : pick(9); same("act " + k + " " + a, x.act(k, a, n), m.act(k, a, n)); break; }
            case 7: { int k = about(20); same("trace", x.trace(k), m.trace(k)); break; }
            default: { int k = about(7), a = about(7); same("taken", x.taken(k, a), m.taken(k, a)); break; }
        }
    }

    /** A tape that tells right what a suit's claims come to, but for one place at times. */
    private static void judgeWhole(WhoMustSwear x, Model m) {
        if (m.suits.isEmpty()) return;
        int suit = pick(m.suits.size());
        List<Integer> comes = new ArrayList<>();
        for (int c = 0; c < m.claims.size(); c++) if (m.claims.get(c).suit == suit) comes.add(m.comes(c));
        int from = pick(3), room = from + comes.size() - (chance(30) ? 1 : 0);
        int t = pick(6);
        same("tape", x.tape(t, 0, room), m.tape(t, 0, room));
        for (int k = 0; k < comes.size(); k++) {
            int v = chance(10) ? pick(6) : comes.get(k);
            same("item", x.item(t, from + k, v), m.item(t, from + k, v));
        }
        same("judge", x.judge(t, from, suit), m.judge(t, from, suit));
    }

    public static void main(String[] args) {
        int runs = args.length > 0 ? Integer.parseInt(args[0]) : 1500;
        for (int run = 0; run < runs && wrong() == 0; run++) {
            seed = 977L * run + 5;
            WhoMustSwear x = new WhoMustSwear();
            Model m = new Model();
            int calls = 0;
            int early = 20 + pick(120);
            while (calls < 495) {
                if (chance(calls < 60 ? 20 : 2)) {
                    calls += feedBoth(x, m, text());
                } else if (chance(2)) {
                    judgeWhole(x, m);
                    calls += 9;
                } else if (chance(calls < early + 60 ? 75 : 25)) {
                    change(x, m);
                } else if (chance(80)) {
                    ask(x, m);
                } else {
                    host(x, m);
                }
                calls++;
            }
            if (wrong() != 0) System.out.println("in run " + run);
        }
        end("ModelTest");
    }
}
