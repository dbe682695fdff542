/** The bounds of promises 11 and 12: what tests hold by, what comes first, least, rolling, who swears. */
public final class BoundsLawsTest extends Twins {
    /** A claim 0 that is open, of which all is at its least (or its most) that a law may ask of. */
    private static WhoMustSwear claimed(String law, int sum, int admitted) {
        WhoMustSwear x = new WhoMustSwear();
        due("law() of " + law, written(x, law), 0);
        x.suit(0, 1, 0);
        x.claim(0, sum, 0);
        x.answer(0, admitted, true);
        return x;
    }

    private interface Told {
        void tell(WhoMustSwear x);
    }

    /** The letter's value: what is less and what is more than it, and itself, hold by no number but the right ones. */
    private static void value(char letter, int value, int sum, int admitted, int sort, Told told) {
        for (int n : new int[] {0, value - 1, value, value + 1, 99}) {
            if (n < 0 || n > 99) continue;
            for (char sign : new char[] {'<', '=', '>'}) {
                String test = "" + letter + sign + n;
                WhoMustSwear x = new WhoMustSwear();
                written(x, "free " + test);
                x.suit(0, 1, 0);
                x.claim(0, sum, sort);
                x.answer(0, admitted, true);
                told.tell(x);
                boolean so = sign == '<' ? value < n : sign == '=' ? value == n : value > n;
                due(test + " of " + value, x.comes(0), so ? 1 : 5);
            }
        }
    }

    // ---- promise 11: tests

    private static void promise11TheSum() {
        value('a', 1, 1, 0, 0, x -> { });
        value('a', 2, 2, 1, 0, x -> { });
        value('a', 98, 98, 0, 0, x -> { });
        value('a', 99, 99, 98, 0, x -> { });
    }

    private static void promise11Admitted() {
        value('y', 0, 99, 0, 0, x -> { });
        value('y', 1, 99, 1, 0, x -> { });
        value('y', 98, 99, 98, 0, x -> { });
    }

    private static void promise11Open() {
        value('o', 1, 99, 98, 0, x -> { });
        value('o', 1, 1, 0, 0, x -> { });
        value('o', 99, 99, 0, 0, x -> { });
        value('o', 98, 99, 1, 0, x -> { });
    }

    private static void promise11Witnesses() {
        for (int n = 0; n < 4; n++) {
            int w = n;
            value('w', n, 9, 0, 0, x -> x.proof(0, 0, w));
        }
    }

    private static void promise11Sort() {
        for (int sort = 0; sort < 3; sort++) value('s', sort, 9, 0, sort, x -> { });
    }

    private static void promise11NotKnown() {
        value('u', 0, 9, 4, 0, x -> { });
        value('u', 1, 9, 4, 0, x -> x.answer(0, 4, false));
        value('u', 0, 9, 0, 0, x -> x.answer(0, 0, true));
    }

    private static void promise11Proofs() {
        String letters = " xbh";
        for (int k = 1; k < 4; k++) {
            int what = k;
            value(letters.charAt(k), 0, 9, 0, 0, x -> { });
            value(letters.charAt(k), 1, 9, 0, 0, x -> x.proof(0, what, 1));
            value(letters.charAt(k), 0, 9, 0, 0, x -> {
                for (int other = 0; other < 4; other++) if (other != what) x.proof(0, other, 1);
            });
        }
    }

    private static void promise11Known() {
        for (int bits : new int[] {0, 1, 2, 4, 8, 16, 30, 31}) {
            value('q', bits, 9, 0, 0, x -> {
                x.known(1, bits);
                x.known(0, 31 - bits);
            });
        }
    }

    // ---- promise 11: the first that is so

    private static void promise11ClaimsThatThereAre() {
        bounds("comes(n)", Twins::furnished, NONE, 0, 3, 3, 2, (x, n) -> x.comes(n));
        bounds("comes(n) of 24", Twins::full, NONE, 0, 1, 23, 1, (x, n) -> x.comes(n));
        noNumber("comes(n) of none", () -> suits(1), NONE, (x, n) -> x.comes(n));
    }

    private static int comes(String law, int sum, int admitted) {
        return claimed(law, sum, admitted).comes(0);
    }

    private static void promise11OpenIs0() {
        String all = "roll a>0;oath p a>0;bind a>0;free a>0";
        for (int sum : new int[] {1, 50, 99}) {
            due("all admitted of " + sum, comes(all, sum, sum), 0);
            due("all but 1 admitted of " + sum, comes(all, sum, sum - 1), 1);
            due("all admitted, of " + sum + ", no clause holds", comes("free a=0", sum, sum), 0);
            due("all but 1 admitted of " + sum + ", no clause holds", comes("free a=0", sum, sum - 1), 5);
        }
    }

    private static void promise11OneAfterTheOther() {
        String[] clauses = {"free a=1", "bind a<3", "oath p a<4", "roll a<5"};
        int[][] orders = {{0, 1, 2, 3}, {3, 2, 1, 0}, {1, 0, 3, 2}, {2, 3, 0, 1}};
        for (int[] order : orders) {
            StringBuilder b = new StringBuilder();
            for (int k : order) b.append(b.length() == 0 ? "" : ";").append(clauses[k]);
            WhoMustSwear x = new WhoMustSwear();
            written(x, b.toString());
            x.suit(0, 1, 0);
            for (int sum = 1; sum < 6; sum++) x.claim(0, sum, 0);
            int[] want = {1, 2, 3, 4, 5};
            for (int c = 0; c < 5; c++) due("comes(" + c + ") by " + b, x.comes(c), want[c]);
        }
    }

    private static void promise11SomeClauseOfSeveral() {
        due("the last free", comes("free a=1;free a=2;free a=3", 3, 0), 1);
        due("the first free", comes("free a=3;free a=2;free a=1", 3, 0), 1);
        due("no free", comes("free a=4;free a=2;free a=1", 3, 0), 5);
        due("the last bind", comes("bind a=1;bind a=3", 3, 0), 2);
        due("the last oath", comes("oath p a=1;oath g a=3", 3, 0), 3);
        due("the eighth clause", comes("free a=1;free a=2;free a=4;free a=5;free a=6;free a=7;free a=8;free a=3", 3, 0), 1);
        WhoMustSwear x = claimed("oath p a=8;roll a=1;roll a=3", 3, 0);
        x.claim(0, 8, 0);
        due("the last roll", x.comes(0), 4);
    }

    // ---- promise 11: least

    private static void promise11Least() {
        for (int least : new int[] {1, 2, 9, 50, 98, 99}) {
            String law = "oath p a>0;least " + least;
            due("open is " + least, comes(law, 99, 99 - least), 3);
            due("open is one less than " + least, comes(law, 99, 100 - least), least == 1 ? 0 : 5);
            if (least < 99) due("open is one more than " + least, comes(law, 99, 98 - least), 3);
        }
        due("least 0", comes("oath p a>0;least 0", 1, 0), 3);
        due("least 00", comes("oath p a>0;least 00", 1, 0), 3);
        due("no least", comes("oath p a>0", 1, 0), 3);
        due("least 99 of 99", comes("oath p a>0;least 99", 99, 0), 3);
        due("least 99 of 98", comes("oath p a>0;least 99", 98, 0), 5);
    }

    private static void promise11TheLastLeast() {
        due("least 5, then 4", comes("least 5;oath p a>0;least 4", 4, 0), 3);
        due("least 4, then 5", comes("least 4;oath p a>0;least 5", 4, 0), 5);
        due("least 5, then 0", comes("least 5;least 0;oath p a>0", 4, 0), 3);
        due("least 3, 5, then 4", comes("least 3;least 5;least 4;oath p a>0", 4, 0), 3);
    }

    /** least is asked of oaths alone: what is free, bound or rolled is so however little is open. */
    private static void promise11LeastIsForOaths() {
        due("free below least", comes("free a>0;least 99", 1, 0), 1);
        due("bound below least", comes("bind a>0;least 99", 1, 0), 2);
        WhoMustSwear x = claimed("oath p a>0;roll a=1;least 9", 1, 0);
        x.claim(0, 9, 0);
        due("rolled below least", x.comes(0), 4);
        due("due at least", x.comes(1), 3);
        x.answer(1, 1, true);
        due("due no more", x.comes(1), 5);
        due("so rolled no more", x.comes(0), 5);
    }

    // ---- promise 11: rolled

    private static WhoMustSwear rolling(String law, int... sums) {
        WhoMustSwear x = new WhoMustSwear();
        due("law() of " + law, written(x, law), 0);
        x.suit(0, 1, 0);
        for (int sum : sums) x.claim(0, sum, 0);
        return x;
    }

    private static void promise11RolledFromAnyPlace() {
        for (int at = 0; at < 6; at++) {
            int[] sums = {1, 2, 3, 4, 5, 6};
            sums[at] = 9;
            WhoMustSwear x = rolling("oath g a=9;roll a<7", sums);
            for (int c = 0; c < 6; c++) {
                due("comes(" + c + ") with the oath at " + at, x.comes(c), c == at ? 3 : 4);
                due("due(" + c + ", 0) with the oath at " + at, x.due(c, 0), 3);
            }
        }
        WhoMustSwear none = rolling("oath g a=9;roll a<7", 1, 2, 3, 4, 5, 6);
        for (int c = 0; c < 6; c++) due("comes(" + c + ") without an oath", none.comes(c), 5);
    }

    private static void promise11OnlyInItsSuit() {
        WhoMustSwear x = rolling("oath g a=9;roll a<7", 1);
        x.suit(0, 1, 0);
        due("claim(1, 9, 0)", x.claim(1, 9, 0), 1);
        due("comes(0): the oath is of another suit", x.comes(0), 5);
        due("comes(1)", x.comes(1), 3);
        x.claim(1, 2, 0);
        due("comes(2)", x.comes(2), 4);
    }

    private static void promise11TheLeastSuchClaim() {
        String law = "oath t a=11;oath p a=12;oath o a=13;oath g a=14;oath h a=15;oath c a=16;bar q=7&a<14;roll a=1";
        WhoMustSwear x = rolling(law, 11, 12, 1, 13, 14, 15);
        due("rolled onto the part's: the turned one is none", x.due(2, 0), 1);
        due("by its clause", x.due(2, 1), 1);
        x.known(1, 7);
        due("the defendant may not swear these: rolled onto the guard's", x.due(2, 0), 3);
        due("by its clause", x.due(2, 1), 3);
        x.known(0, 7);
        due("nobody may swear these: rolled onto the guard's", x.due(2, 0), 3);
        x.answer(4, 14, true);
        due("of the guard's nothing is open: rolled onto the heir's", x.due(2, 0), 4);
        due("by its clause", x.due(2, 1), 4);
        x.answer(5, 15, true);
        due("no oath is left", x.comes(2), 5);
    }

    /** A turned oath that the defendant swears, as the plaintiff may not, is a turned one all the same. */
    private static void promise11NoTurnedOne() {
        WhoMustSwear x = rolling("oath t a=9;bar q=7;roll a=1", 1, 9);
        due("comes(0)", x.comes(0), 5);
        x.known(0, 7);
        due("due(1, 2): the defendant swears", x.due(1, 2), 0);
        due("comes(0)", x.comes(0), 5);
    }

    /** What is itself rolled is not what another is rolled onto. */
    private static void promise11NotOntoARolledOne() {
        WhoMustSwear x = rolling("oath p a=9;oath o a=8;roll a<8", 1, 2, 8, 9);
        due("comes(0)", x.comes(0), 4);
        due("comes(1)", x.comes(1), 4);
        due("due(1, 0)", x.due(1, 0), 2);
        due("rolled(0, 0)", x.rolled(0, 0), 2);
        x.answer(2, 8, true);
        due("due(0, 0)", x.due(0, 0), 1);
        x.answer(3, 9, true);
        due("comes(0)", x.comes(0), 5);
        due("comes(1)", x.comes(1), 5);
    }

    private static void promise11FreeAndBoundAreNotRolled() {
        WhoMustSwear x = rolling("oath p a=9;roll a>0;free a=1;bind a=2", 1, 2, 9, 9);
        due("comes(0)", x.comes(0), 1);
        due("comes(1)", x.comes(1), 2);
        due("comes(3): due by its own", x.comes(3), 3);
        x.answer(3, 9, true);
        due("comes(3): nothing open", x.comes(3), 0);
    }

    // ---- promise 12

    private static void promise12ClaimsThatThereAre() {
        bounds("due(n, 0)", Twins::furnished, NONE, 0, 1, 3, -5, (x, n) -> x.due(n, 0));
        bounds("due(n, 0) of 24", Twins::full, NONE, 0, -5, 23, -5, (x, n) -> x.due(n, 0));
    }

    private static void promise12WhatIs0To2() {
        bounds("due(0, n)", Twins::furnished, NONE, 0, 1, 2, 0, (x, n) -> x.due(0, n));
        bounds("due(2, n)", Twins::furnished, NONE, 0, 6, 2, 1, (x, n) -> x.due(2, n));
    }

    private static void promise12Neither() {
        WhoMustSwear x = rolling("free a=1;bind a=2;roll a=3;oath p a=4", 1, 2, 3, 5, 6);
        x.answer(4, 6, true);
        for (int c = 0; c < 5; c++) {
            for (int what = 0; what < 3; what++) due("due(" + c + ", " + what + ")", x.due(c, what), -5);
            for (int what : new int[] {-1, 3, LEAST, MOST}) due("due(" + c + ", " + what + ")", x.due(c, what), -1);
        }
        x.claim(0, 4, 0);
        int[] rolledToo = {1, 3, 0};
        for (int what = 0; what < 3; what++) {
            due("due(2, " + what + ")", x.due(2, what), rolledToo[what]);
            due("due(5, " + what + ")", x.due(5, what), rolledToo[what]);
        }
    }

    private static void promise12ClausesAre0To7() {
        for (int at = 0; at < 8; at++) {
            String law = "least 1;".repeat(at) + "oath c a>0" + ";least 1".repeat(7 - at);
            WhoMustSwear x = claimed(law, 9, 0);
            due("due(0, 0) by " + law, x.due(0, 0), 5);
            due("due(0, 1) by " + law, x.due(0, 1), at);
        }
    }

    private static void promise12TheFirstClauseThatHolds() {
        WhoMustSwear x = claimed("oath o a=1;oath g a=9;oath h a=9;oath t a=9", 9, 0);
        due("due(0, 0)", x.due(0, 0), 3);
        due("due(0, 1)", x.due(0, 1), 1);
        WhoMustSwear y = claimed("oath t q=1;oath g q=2;oath t q=3", 9, 0);
        y.known(1, 1);
        y.known(0, 2);
        due("due(0, 0): neither is so known", y.due(0, 0), -5);
        y.known(0, 3);
        due("due(0, 1): so is the plaintiff known", y.due(0, 1), 2);
        y.known(1, 2);
        due("due(0, 1): so is the defendant known", y.due(0, 1), 1);
        y.known(0, 1);
        due("due(0, 1): so is the plaintiff known", y.due(0, 1), 0);
    }

    private static void promise12EachKind() {
        String kinds = "poghct";
        for (int k = 0; k < 6; k++) {
            WhoMustSwear x = claimed("oath " + kinds.charAt(k) + " a>0;bar q=31", 9, 0);
            due("due(0, 0)", x.due(0, 0), k + 1);
            int own = k == 5 ? 1 : 0;
            int person = 1 - own;
            int otherPerson = own;
            due("due(0, 2)", x.due(0, 2), own);
            x.known(otherPerson, 31);
            due("due(0, 2): the other is barred", x.due(0, 2), own);
            x.known(person, 31);
            due("due(0, 2): both are barred", x.due(0, 2), 2);
            x.known(otherPerson, 30);
            due("due(0, 2): the one of the oath is barred", x.due(0, 2), 1 - own);
            x.known(person, 30);
            due("due(0, 2): none is barred", x.due(0, 2), own);
        }
    }

    /** The one of the oath: the defendant is person 1, the plaintiff 0. */
    private static void promise12TheOtherSwears() {
        WhoMustSwear x = claimed("oath p a>0;bar q=31", 9, 0);
        x.known(1, 31);
        due("due(0, 2)", x.due(0, 2), 1);
        WhoMustSwear y = claimed("oath t a>0;bar q=31", 9, 0);
        y.known(0, 31);
        due("due(0, 2)", y.due(0, 2), 0);
        WhoMustSwear z = claimed("oath p a>0;bar q=1;bar w=1", 9, 0);
        z.known(1, 1);
        due("due(0, 2): by the first bar", z.due(0, 2), 1);
        z.proof(0, 0, 1);
        due("due(0, 2): by the second bar too", z.due(0, 2), 2);
        z.known(1, 0);
        due("due(0, 2): by the second bar", z.due(0, 2), 2);
    }

    public static void main(String[] args) {
        promise11TheSum();
        promise11Admitted();
        promise11Open();
        promise11Witnesses();
        promise11Sort();
        promise11NotKnown();
        promise11Proofs();
        promise11Known();
        promise11ClaimsThatThereAre();
        promise11OpenIs0();
        promise11OneAfterTheOther();
        promise11SomeClauseOfSeveral();
        promise11Least();
        promise11TheLastLeast();
        promise11LeastIsForOaths();
        promise11RolledFromAnyPlace();
        promise11OnlyInItsSuit();
        promise11TheLeastSuchClaim();
        promise11NoTurnedOne();
        promise11NotOntoARolledOne();
        promise11FreeAndBoundAreNotRolled();
        promise12ClaimsThatThereAre();
        promise12WhatIs0To2();
        promise12Neither();
        promise12ClausesAre0To7();
        promise12TheFirstClauseThatHolds();
        promise12EachKind();
        promise12TheOtherSwears();
        end("BoundsLawsTest");
    }
}
