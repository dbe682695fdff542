import java.util.ArrayList;
import java.util.Arrays;
import java.util.List;

/**
 * The document once more, written as literally as it goes: every choice, row and sum is tried out on copies, laws are
 * trees, faults are found by following all that the grammar allows. The tests hold WhoMustSwear against it.
 */
final class Model {
    static final long NO = Long.MIN_VALUE;

    static final class Claim implements Cloneable {
        int suit, sum, sort, admitted, witnesses, owed;
        boolean known = true, paper, book, held;

        Claim copy() {
            try {
                return (Claim) clone();
            } catch (CloneNotSupportedException e) {
                throw new IllegalStateException(e);
            }
        }
    }

    record Suit(int plaintiff, int defendant, int law) { }

    /** A test, or an operator over parts: letter 0 stands for none. */
    record Tree(char what, char sign, int number, Tree left, Tree right) {
        boolean holds(Claim c, int q) {
            switch (what) {
                case '|': return left.holds(c, q) || right.holds(c, q);
                case '&': return left.holds(c, q) && right.holds(c, q);
                case '!': return !left.holds(c, q);
                default:
                    int v = value(c, q);
                    return sign == '<' ? v < number : sign == '>' ? v > number : v == number;
            }
        }

        private int value(Claim c, int q) {
            switch (what) {
                case 'a': return c.sum;
                case 'y': return c.admitted;
                case 'o': return c.sum - c.admitted;
                case 'w': return c.witnesses;
                case 's': return c.sort;
                case 'u': return c.known ? 0 : 1;
                case 'x': return c.paper ? 1 : 0;
                case 'b': return c.book ? 1 : 0;
                case 'h': return c.held ? 1 : 0;
                case 'q': return q;
                default: throw new IllegalStateException("letter " + what);
            }
        }
    }

    record Clause(String word, char kind, int n, int d, Tree tree) { }

    record Fraction(long above, long below) {
        static final Fraction ZERO = new Fraction(0, 1);

        static Fraction whole(long n) {
            return new Fraction(n, 1);
        }

        Fraction plus(Fraction o) {
            return new Fraction(above * o.below + o.above * below, below * o.below).low();
        }

        Fraction minus(Fraction o) {
            return plus(new Fraction(-o.above, o.below));
        }

        Fraction low() {
            long a = Math.abs(above), b = below;
            while (b != 0) {
                long r = a % b;
                a = b;
                b = r;
            }
            return new Fraction(above / a, below / a);
        }

        int against(Fraction o) {
            return Long.compare(above * o.below, o.above * below);
        }

        long part(int p) {
            return p == 0 ? low().above : low().below;
        }
    }

    final int[] known = new int[8];
    final List<Suit> suits = new ArrayList<>();
    List<Claim> claims = new ArrayList<>();
    final List<List<Clause>> laws = new ArrayList<>();
    String text = "";
    List<Claim> imageClaims;
    int[] imageKnown;
    final List<Integer> trace = new ArrayList<>();
    final long[][] tapes = new long[6][];
    final int[] sorts = {-1, -1, -1, -1, -1, -1};

    // ---- 1

    int known(int person, int bits) {
        if (person < 0 || person > 7) return -1;
        if (bits < 0 || bits > 31) return -2;
        int was = known[person];
        known[person] = bits;
        return was;
    }

    int suit(int p, int d, int law) {
        if (p < 0 || p > 7 || d < 0 || d > 7 || law < 0 || law >= laws.size()) return -1;
        if (p == d) return -2;
        if (suits.size() == 5) return -4;
        suits.add(new Suit(p, d, law));
        return suits.size() - 1;
    }

    boolean noSuit(int s) {
        return s < 0 || s >= suits.size();
    }

    boolean noClaim(int c) {
        return c < 0 || c >= claims.size();
    }

    boolean noLaw(int l) {
        return l < 0 || l >= laws.size();
    }

    List<Claim> claimsOf(int suit) {
        List<Claim> found = new ArrayList<>();
        for (Claim c : claims) if (c.suit == suit) found.add(c);
        return found;
    }

    int claim(int suit, int sum, int sort) {
        if (noSuit(suit)) return -1;
        if (sum < 1 || sum > 99 || sort < 0 || sort > 2) return -2;
        if (claims.size() == 24 || claimsOf(suit).size() == 6) return -4;
        Claim c = new Claim();
        c.suit = suit;
        c.sum = sum;
        c.sort = sort;
        claims.add(c);
        return claims.size() - 1;
    }

    int answer(int claim, int n, boolean so) {
        if (noClaim(claim)) return -1;
        Claim c = claims.get(claim);
        if (n < 0 || n > c.sum) return -2;
        int was = c.admitted;
        c.admitted = n;
        c.known = so;
        return was;
    }

    int proof(int claim, int what, int n) {
        if (noClaim(claim) || what < 0 || what > 3) return -1;
        if (n < 0 || n > (what == 0 ? 3 : 1)) return -2;
        Claim c = claims.get(claim);
        int was = of(claim, 5 + what);
        if (what == 0) c.witnesses = n;
        if (what == 1) c.paper = n == 1;
        if (what == 2) c.book = n == 1;
        if (what == 3) c.held = n == 1;
        return was;
    }

    int truth(int claim, int n) {
        if (noClaim(claim)) return -1;
        if (n < 0 || n > 99) return -2;
        int was = claims.get(claim).owed;
        claims.get(claim).owed = n;
        return was;
    }

    int of(int claim, int what) {
        if (noClaim(claim) || what < 0 || what > 9) return -1;
        Claim c = claims.get(claim);
        int[] all = {c.suit, c.sum, c.sort, c.admitted, c.known ? 1 : 0, c.witnesses, c.paper ? 1 : 0, c.book ? 1 : 0,
            c.held ? 1 : 0, c.owed};
        return all[what];
    }

    // ---- 2

    int feed(int bytes, int n) {
        if (n < 0 || n > 4) return -2;
        if (text.length() + n > 100) return -4;
        byte[] four = {(byte) (bytes >> 24), (byte) (bytes >> 16), (byte) (bytes >> 8), (byte) bytes};
        for (int k = 4 - n; k < 4; k++) text += (char) (four[k] & 255);
        return text.length();
    }

    int law() {
        if (laws.size() == 6) return -4;
        String t = text;
        text = "";
        int fault = Grammar.fault(t);
        if (fault >= 0) return -10 - fault;
        List<Clause> law = new ArrayList<>();
        for (String part : t.split(";")) law.add(clause(part));
        laws.add(law);
        return laws.size() - 1;
    }

    static Clause clause(String part) {
        String[] w = part.split(" ");
        switch (w[0]) {
            case "lose": case "both":
                return new Clause(w[0], ' ', Integer.parseInt(w[1]), Integer.parseInt(w[2]), null);
            case "least":
                return new Clause(w[0], ' ', Integer.parseInt(w[1]), 0, null);
            case "oath":
                return new Clause(w[0], w[1].charAt(0), 0, 0, tree(w[2]));
            default:
                return new Clause(w[0], ' ', 0, 0, tree(w[1]));
        }
    }

    /** Cuts at the first | outside brackets, else at the first &, else takes the ! or the brackets off. */
    static Tree tree(String e) {
        for (char cut : new char[] {'|', '&'}) {
            int depth = 0;
            for (int k = 0; k < e.length(); k++) {
                if (e.charAt(k) == '(') depth++;
                if (e.charAt(k) == ')') depth--;
                if (depth == 0 && e.charAt(k) == cut) {
                    return new Tree(cut, ' ', 0, tree(e.substring(0, k)), tree(e.substring(k + 1)));
                }
            }
        }
        if (e.charAt(0) == '!') return new Tree('!', ' ', 0, tree(e.substring(1)), null);
        if (e.charAt(0) == '(') return tree(e.substring(1, e.length() - 1));
        return new Tree(e.charAt(0), e.charAt(1), Integer.parseInt(e.substring(2)), null, null);
    }

    /** What is asked of one claim (told), among its suit's claims (all), by a law. */
    static final class Judged {
        int comes, kind = -5, clause = -5, who = -5;
    }

    boolean some(List<Clause> law, String word, Claim c, int q) {
        for (Clause k : law) if (k.word.equals(word) && k.tree.holds(c, q)) return true;
        return false;
    }

    static Clause last(List<Clause> law, String word, int n, int d) {
        Clause found = new Clause(word, ' ', n, d, null);
        for (Clause k : law) if (k.word.equals(word)) found = k;
        return found;
    }

    int who(List<Clause> law, Claim c, int p, int d, boolean plaintiffs) {
        boolean dBarred = some(law, "bar", c, known[d]);
        boolean pBarred = some(law, "bar", c, known[p]);
        if (dBarred && pBarred) return 2;
        if (plaintiffs) return pBarred ? 0 : 1;
        return dBarred ? 1 : 0;
    }

    Judged alone(List<Clause> law, Claim c, int p, int d) {
        Judged j = new Judged();
        int open = c.sum - c.admitted;
        j.comes = 5;
        if (open == 0) j.comes = 0;
        else if (some(law, "free", c, known[d])) j.comes = 1;
        else if (some(law, "bind", c, known[d])) j.comes = 2;
        else if (open >= last(law, "least", 0, 0).n) {
            for (int k = law.size() - 1; k >= 0; k--) {
                Clause cl = law.get(k);
                if (!cl.word.equals("oath") || !cl.tree.holds(c, known[cl.kind == 't' ? p : d])) continue;
                j.comes = 3;
                j.kind = " poghct".indexOf(cl.kind);
                j.clause = k;
                j.who = who(law, c, p, d, cl.kind == 't');
            }
        }
        return j;
    }

    Judged judged(List<Clause> law, List<Claim> all, Claim c, int p, int d) {
        Judged j = alone(law, c, p, d);
        if (j.comes != 5 || !some(law, "roll", c, known[d])) return j;
        for (Claim other : all) {
            Judged o = alone(law, other, p, d);
            if (o.comes == 3 && o.kind != 6 && o.who == 0) {
                j.comes = 4;
                j.kind = o.kind;
                j.clause = o.clause;
                j.who = who(law, c, p, d, false);
                return j;
            }
        }
        return j;
    }

    Judged judged(int claim, int law) {
        Claim c = claims.get(claim);
        Suit s = suits.get(c.suit);
        return judged(laws.get(law), claimsOf(c.suit), c, s.plaintiff, s.defendant);
    }

    int comes(int claim) {
        return noClaim(claim) ? -1 : judged(claim, suits.get(claims.get(claim).suit).law).comes;
    }

    int due(int claim, int what) {
        if (noClaim(claim) || what < 0 || what > 2) return -1;
        Judged j = judged(claim, suits.get(claims.get(claim).suit).law);
        return what == 0 ? j.kind : what == 1 ? j.clause : j.who;
    }

    // ---- 3

    /** truly: the plaintiff, to whom it went over, swears only if that is true. */
    Fraction paid(List<Clause> law, Claim c, Judged j, int p, boolean so, boolean truly) {
        long open = c.sum - c.admitted;
        Fraction f = Fraction.whole(c.admitted);
        Fraction whole = Fraction.whole(open);
        if (j.comes == 2) return f.plus(whole);
        if (j.comes != 3 && j.comes != 4) return f;
        if (j.who == 2) {
            Clause both = last(law, "both", 0, 1);
            return f.plus(new Fraction(open * both.n, both.d));
        }
        if (j.who == 1) return so ? f.plus(whole) : f;
        if (so) return f;
        if (some(law, "over", c, known[p]) && !some(law, "bar", c, known[p])) {
            return !truly || c.owed >= c.sum ? f.plus(whole) : f;
        }
        Clause lose = last(law, "lose", 1, 1);
        return f.plus(new Fraction(open * lose.n, lose.d));
    }

    static boolean canSwear(Claim c, Judged j) {
        if (j.comes != 3 && j.comes != 4) return false;
        if (j.who == 0) return j.kind == 4 || c.owed <= c.admitted;
        return j.who == 1 && c.owed >= c.sum;
    }

    Fraction inAll(int suit, List<Claim> all, int choices) {
        Suit s = suits.get(suit);
        List<Clause> law = laws.get(s.law);
        Fraction f = Fraction.ZERO;
        for (int k = 0; k < all.size(); k++) {
            Judged j = judged(law, all, all.get(k), s.plaintiff, s.defendant);
            f = f.plus(paid(law, all.get(k), j, s.plaintiff, (choices >> k & 1) == 1, false));
        }
        return f;
    }

    Fraction inTruth(int suit, List<Claim> all) {
        Suit s = suits.get(suit);
        List<Clause> law = laws.get(s.law);
        Fraction f = Fraction.ZERO;
        for (Claim c : all) {
            Judged j = judged(law, all, c, s.plaintiff, s.defendant);
            f = f.plus(paid(law, c, j, s.plaintiff, canSwear(c, j), true));
        }
        return f;
    }

    long paid(int claim, boolean so, int part) {
        if (noClaim(claim) || part < 0 || part > 1) return NO;
        Claim c = claims.get(claim);
        Suit s = suits.get(c.suit);
        return paid(laws.get(s.law), c, judged(claim, s.law), s.plaintiff, so, false).part(part);
    }

    long all(int suit, int choices, int part) {
        if (noSuit(suit) || part < 0 || part > 1) return NO;
        List<Claim> all = claimsOf(suit);
        for (int b = 0; b < 32; b++) if (b >= all.size() && (choices >> b & 1) == 1) return NO;
        return inAll(suit, all, choices).part(part);
    }

    long ends(int suit, int what, int part) {
        if (noSuit(suit) || part < 0 || part > 1 || what < 0 || what > 2) return NO;
        List<Claim> all = claimsOf(suit);
        if (what == 2) return inTruth(suit, all).part(part);
        Fraction end = null;
        for (int choices = 0; choices < 1 << all.size(); choices++) {
            Fraction f = inAll(suit, all, choices);
            if (end == null || (what == 0 ? f.against(end) < 0 : f.against(end) > 0)) end = f;
        }
        return end.part(part);
    }

    int truly(int suit) {
        if (noSuit(suit)) return -1;
        Suit s = suits.get(suit);
        List<Claim> all = claimsOf(suit);
        int bits = 0;
        for (int k = 0; k < all.size(); k++) {
            if (canSwear(all.get(k), judged(laws.get(s.law), all, all.get(k), s.plaintiff, s.defendant))) bits |= 1 << k;
        }
        return bits;
    }

    int rolled(int suit, int what) {
        if (noSuit(suit) || what < 0 || what > 1) return -1;
        Suit s = suits.get(suit);
        int many = 0;
        int onto = -5;
        for (int c = claims.size() - 1; c >= 0; c--) {
            if (claims.get(c).suit != suit) continue;
            Judged j = judged(c, s.law);
            if (j.comes == 4) many++;
            if (j.comes == 3 && j.kind != 6 && j.who == 0) onto = c;
        }
        return what == 1 ? many : many == 0 ? -5 : onto;
    }

    static Claim answered(Claim c, int a) {
        Claim n = c.copy();
        int[] admitted = {0, c.sum, Math.min(c.sum, c.owed), c.sum / 2, 0};
        n.admitted = admitted[a];
        n.known = a != 4;
        return n;
    }

    /** All rows, the first place's answer the slowest to change. */
    static void rows(List<Claim> told, List<Claim> head, List<List<Claim>> into) {
        if (head.size() == told.size()) {
            into.add(new ArrayList<>(head));
            return;
        }
        for (int a = 0; a < 5; a++) {
            head.add(answered(told.get(head.size()), a));
            rows(told, head, into);
            head.remove(head.size() - 1);
        }
    }

    int countOaths(int suit, List<Claim> all, boolean anyDue) {
        Suit s = suits.get(suit);
        int many = 0;
        for (Claim c : all) {
            Judged j = judged(laws.get(s.law), all, c, s.plaintiff, s.defendant);
            if (anyDue ? j.comes == 3 : (j.comes == 3 || j.comes == 4) && j.who == 0) many++;
        }
        return many;
    }

    int bestRow(int suit, List<List<Claim>> rows) {
        int best = 0;
        for (int r = 1; r < rows.size(); r++) {
            int c = inTruth(suit, rows.get(r)).against(inTruth(suit, rows.get(best)));
            if (c < 0 || c == 0 && countOaths(suit, rows.get(r), false) < countOaths(suit, rows.get(best), false)) best = r;
        }
        return best;
    }

    int best(int suit, int i) {
        if (noSuit(suit)) return -1;
        List<Claim> all = claimsOf(suit);
        if (all.size() > 4) return -9;
        if (i < -1 || i >= all.size()) return -1;
        List<List<Claim>> rows = new ArrayList<>();
        rows(all, new ArrayList<>(), rows);
        int best = bestRow(suit, rows);
        if (i == -1) return countOaths(suit, rows.get(best), false);
        for (int k = 0; k < all.size() - 1 - i; k++) best /= 5;
        return best % 5;
    }

    int slips(int suit) {
        if (noSuit(suit)) return -1;
        List<Claim> all = claimsOf(suit);
        if (all.size() > 4) return -9;
        List<List<Claim>> rows = new ArrayList<>();
        rows(all, new ArrayList<>(), rows);
        Fraction least = inTruth(suit, rows.get(bestRow(suit, rows)));
        int many = 0;
        for (List<Claim> row : rows) {
            if (countOaths(suit, row, true) == 0 && inTruth(suit, row).against(least) <= 0) many++;
        }
        return many;
    }

    List<Claim> withSum(int claim, int sum) {
        List<Claim> all = new ArrayList<>();
        for (int k = 0; k < claims.size(); k++) {
            Claim c = claims.get(k).copy();
            if (c.suit != claims.get(claim).suit) continue;
            if (k == claim) {
                c.sum = sum;
                if (c.admitted > sum) c.admitted = sum;
            }
            all.add(c);
        }
        return all;
    }

    int wise(int claim) {
        if (noClaim(claim)) return -1;
        int suit = claims.get(claim).suit;
        int wisest = 0;
        Fraction most = null;
        for (int sum = 1; sum < 100; sum++) {
            Fraction f = inTruth(suit, withSum(claim, sum));
            if (most == null || f.against(most) > 0) {
                most = f;
                wisest = sum;
            }
        }
        return wisest;
    }

    // ---- 4

    long off(int first, int second, int part) {
        if (noSuit(first) || noSuit(second) || part < 0 || part > 1) return NO;
        Suit f = suits.get(first);
        Suit s = suits.get(second);
        if (f.plaintiff != s.defendant || f.defendant != s.plaintiff) return NO + 1;
        return inTruth(first, claimsOf(first)).minus(inTruth(second, claimsOf(second))).part(part);
    }

    int beside(int claim, int one, int other) {
        if (noClaim(claim) || noLaw(one) || noLaw(other)) return -1;
        return judged(claim, one).comes * 10 + judged(claim, other).comes;
    }

    int ways(int claim, int one, int other) {
        if (noClaim(claim) || noLaw(one) || noLaw(other)) return -1;
        Suit s = suits.get(claims.get(claim).suit);
        int place = claimsOf(claims.get(claim).suit).indexOf(claims.get(claim));
        for (int sum = 1; sum < 100; sum++) {
            List<Claim> all = withSum(claim, sum);
            Claim c = all.get(place);
            if (judged(laws.get(one), all, c, s.plaintiff, s.defendant).comes
                    != judged(laws.get(other), all, c, s.plaintiff, s.defendant).comes) {
                return sum;
            }
        }
        return -5;
    }

    int image() {
        imageClaims = new ArrayList<>();
        for (Claim c : claims) imageClaims.add(c.copy());
        imageKnown = known.clone();
        return claims.size();
    }

    int undo() {
        if (imageClaims == null) return -3;
        claims = new ArrayList<>();
        for (Claim c : imageClaims) claims.add(c.copy());
        System.arraycopy(imageKnown, 0, known, 0, 8);
        return claims.size();
    }

    /** The kinds as classes of the host, so that it finds the bodies itself. */
    class Oath {
        int n = claims.size(), m = suits.size();

        int ran(int body) {
            trace.add(body);
            return 0;
        }

        int swears(int x) {
            return ran(10) + x + n;
        }

        int frees(int x) {
            return ran(11) + swears(x) - m;
        }

        int takes(int x) {
            return ran(12) + frees(x) * 2;
        }
    }

    class Part extends Oath {
        int frees(int x) {
            ran(20);
            return super.frees(x) ^ 6;
        }
    }

    class One extends Part {
        int swears(int x) {
            return ran(30) + super.swears(x * 3);
        }

        int takes(int x) {
            return ran(31) + super.takes(x) + frees(1);
        }
    }

    class Guard extends Oath {
        int swears(int x) {
            return ran(40) - super.swears(x);
        }
    }

    class Heir extends Guard {
        int takes(int x) {
            return ran(50) + super.takes(x - n);
        }

        int frees(int x) {
            return ran(51) + super.frees(x) + super.swears(2);
        }
    }

    class Custom extends Oath {
        int frees(int x) {
            return ran(60) + super.frees(x + m);
        }
    }

    class Turned extends Oath {
        int takes(int x) {
            return ran(70) + swears(x) - super.takes(x);
        }
    }

    Oath kind(int k) {
        switch (k) {
            case 0: return new Oath();
            case 1: return new Part();
            case 2: return new One();
            case 3: return new Guard();
            case 4: return new Heir();
            case 5: return new Custom();
            case 6: return new Turned();
            default: return null;
        }
    }

    int act(int kind, int act, int x) {
        trace.clear();
        Oath o = kind(kind);
        if (o == null) return 0;
        switch (act) {
            case 0: return o.swears(x);
            case 1: return o.frees(x);
            case 2: return o.takes(x);
            default: return 0;
        }
    }

    int trace(int i) {
        return i < 0 || i >= 20 || i >= trace.size() ? -1 : trace.get(i);
    }

    int taken(int kind, int k) {
        if (k < 0 || k > 6) return -2;
        if (kind < 0 || kind > 6) return -11;
        return kind(k).getClass().isInstance(kind(kind)) ? kind : -12;
    }

    int count(int what) {
        int[] all = {suits.size(), claims.size(), laws.size(), text.length(), trace.size()};
        return what < 0 || what > 4 ? -2 : all[what];
    }

    // ---- 5

    int judge(int tape, int i, int suit) {
        if (tape < 0 || tape > 5 || noSuit(suit)) return -1;
        if (sorts[tape] > 0) return -12;
        List<Claim> all = claimsOf(suit);
        Suit s = suits.get(suit);
        for (int k = 0; k < all.size(); k++) {
            long at = (long) i + k;
            if (tapes[tape] == null || at < 0 || at >= tapes[tape].length) return 100 + k;
            if (tapes[tape][(int) at] != judged(laws.get(s.law), all, all.get(k), s.plaintiff, s.defendant).comes) return k;
        }
        return -5;
    }

    int tape(int tape, int sort, int n) {
        if (tape < 0 || tape > 5) return -1;
        if (sort < -1 || sort > 4) return -2;
        if (sort >= 0 && n > 60) return -2;
        if (sort >= 0 && n < 0) return -14;
        sorts[tape] = sort;
        tapes[tape] = sort < 0 ? null : new long[n];
        return 1;
    }

    int item(int tape, int i, long v) {
        if (tape < 0 || tape > 5) return -1;
        if (tapes[tape] == null) return -11;
        if (i < 0 || i >= tapes[tape].length) return -13;
        long[] cut = {(byte) v, (short) v, (int) v, v, v != 0 ? 1 : 0};
        tapes[tape][i] = cut[sorts[tape]];
        return 1;
    }

    long read(int tape, int i) {
        if (tape < 0 || tape > 5 || tapes[tape] == null || i < 0 || i >= tapes[tape].length) return NO;
        return tapes[tape][i];
    }

    int shift(int tape, int i, int other, int j, int n) {
        if (tape < 0 || tape > 5 || other < 0 || other > 5) return -1;
        if (tapes[tape] == null || tapes[other] == null) return -11;
        if (sorts[tape] != sorts[other]) return -12;
        if (n < 0 || i < 0 || j < 0) return -13;
        if ((long) i + n > tapes[tape].length || (long) j + n > tapes[other].length) return -13;
        long[] from = Arrays.copyOfRange(tapes[tape], i, i + n);
        for (int k = 0; k < n; k++) tapes[other][j + k] = from[k];
        return n;
    }
}
