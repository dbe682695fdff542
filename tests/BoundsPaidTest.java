/** The bounds of promises 13 to 17: what is paid at its least and most, parts, choices, what is sworn truly. */
public final class BoundsPaidTest extends Twins {
    private static WhoMustSwear suit(String law, int... sums) {
        WhoMustSwear x = new WhoMustSwear();
        due("law() of " + law, written(x, law), 0);
        x.suit(0, 1, 0);
        for (int sum : sums) x.claim(0, sum, 0);
        return x;
    }

    private static void paid(WhoMustSwear x, int claim, boolean so, long above, long below) {
        due("paid(" + claim + ", " + so + ")", x.paid(claim, so, 0), x.paid(claim, so, 1), above, below);
    }

    private static void ends(WhoMustSwear x, int what, long above, long below) {
        due("ends(0, " + what + ")", x.ends(0, what, 0), x.ends(0, what, 1), above, below);
    }

    // ---- promise 13

    private static void promise13ClaimsThatThereAre() {
        bounds("paid(n, false, 0)", Twins::furnished, NO, 0, 30, 3, 99, (x, n) -> x.paid(n, false, 0));
        bounds("paid(n, true, 1) of 24", Twins::full, NO, 0, 1, 23, 1, (x, n) -> x.paid(n, true, 1));
        noNumber("paid(n, true, 0) of none", () -> suits(1), NO, (x, n) -> x.paid(n, true, 0));
    }

    private static void promise13PartsAre0And1() {
        bounds("paid(1, false, n)", Twins::furnished, NO, 0, 3, 1, 1, (x, n) -> x.paid(1, false, n));
        bounds("paid(0, true, n)", Twins::furnished, NO, 0, 20, 1, 1, (x, n) -> x.paid(0, true, n));
        unchanged("paid(4, true, 2)", Twins::furnished, NO, x -> x.paid(4, true, 2));
    }

    private static void promise13AtTheMost() {
        paid(suit("oath p a>0;lose 99 1", 99), 0, false, 99 * 99, 1);
        paid(suit("oath p a>0;lose 1 99", 98), 0, false, 98, 99);
        paid(suit("oath p a>0;lose 1 99", 99), 0, false, 1, 1);
        paid(suit("oath p a>0;lose 99 98", 97), 0, false, 99 * 97, 98);
        paid(suit("oath p a>0;lose 99 99", 99), 0, false, 99, 1);
        paid(suit("bar a>0;oath p a>0;both 99 1", 99), 0, false, 99 * 99, 1);
        paid(suit("bar a>0;oath p a>0;both 1 99", 98), 0, true, 98, 99);
        paid(suit("bar a>0;oath p a>0;both 97 98;lose 98 97", 99), 0, true, 97 * 99, 98);
        paid(suit("oath p a>0;both 97 98;lose 98 97", 99), 0, false, 98 * 99, 97);
        paid(suit("bind a>0", 99), 0, false, 99, 1);
    }

    private static void promise13AtTheLeast() {
        paid(suit("oath p a>0;lose 0 99", 99), 0, false, 0, 1);
        paid(suit("oath p a>0;lose 00 99", 99), 0, false, 0, 1);
        paid(suit("bar a>0;oath p a>0;both 0 99", 99), 0, false, 0, 1);
        paid(suit("oath p a>0;lose 1 99", 1), 0, false, 1, 99);
        paid(suit("free a>0", 1), 0, false, 0, 1);
        WhoMustSwear x = suit("oath p a>0;lose 1 99", 99);
        x.answer(0, 98, true);
        paid(x, 0, false, 98 * 99 + 1, 99);
        x.answer(0, 99, true);
        paid(x, 0, false, 99, 1);
        paid(x, 0, true, 99, 1);
    }

    /** Without: all is lost by refusing, and nothing is paid if nobody may swear. */
    private static void promise13WithoutLoseAndBoth() {
        for (int sum : new int[] {1, 7, 99}) {
            paid(suit("oath p a>0", sum), 0, false, sum, 1);
            paid(suit("oath p a>0;bar a>0", sum), 0, false, 0, 1);
            paid(suit("oath p a>0;both 1 2", sum), 0, false, sum, 1);
            paid(suit("oath p a>0;bar a>0;lose 1 2", sum), 0, false, 0, 1);
        }
    }

    private static void promise13TheLastClauseCounts() {
        paid(suit("lose 1 2;oath p a>0;lose 1 3;lose 1 5", 30), 0, false, 6, 1);
        paid(suit("lose 1 5;oath p a>0;lose 0 3;lose 1 2", 30), 0, false, 15, 1);
        paid(suit("both 1 2;bar a>0;oath p a>0;both 1 3;both 1 5", 30), 0, false, 6, 1);
        paid(suit("both 1 5;bar a>0;oath p a>0;both 0 3;both 1 2", 30), 0, false, 15, 1);
        paid(suit("lose 1 5;lose 1 1;oath p a>0", 30), 0, false, 30, 1);
        paid(suit("both 1 5;both 0 1;bar a>0;oath p a>0", 30), 0, false, 0, 1);
    }

    private static void promise13FiguresOfNAndD() {
        for (int n = 0; n < 100; n += n < 11 ? 1 : 22) {
            for (int d = 1; d < 100; d += d < 11 ? 1 : 22) {
                String[] shares = {n + " " + d, (n < 10 ? "0" : "") + n + " " + (d < 10 ? "0" : "") + d};
                for (String share : shares) {
                    WhoMustSwear x = suit("bar w=1;oath p a>0;lose " + share + ";both 3 7", 1, 1);
                    due("paid(0, false) by lose " + share, x.paid(0, false, 0) * d, x.paid(0, false, 1) * n);
                    WhoMustSwear y = suit("bar a>0;oath p a>0;lose 3 7;both " + share, 1);
                    due("paid(0, false) by both " + share, y.paid(0, false, 0) * d, y.paid(0, false, 1) * n);
                }
            }
        }
    }

    private static void promise13LowestTerms() {
        paid(suit("oath p a>0;lose 2 4", 1), 0, false, 1, 2);
        paid(suit("oath p a>0;lose 2 4", 2), 0, false, 1, 1);
        paid(suit("oath p a>0;lose 36 96", 10), 0, false, 15, 4);
        WhoMustSwear x = suit("oath p a>0;lose 3 4;both 5 7", 10);
        x.answer(0, 4, true);
        paid(x, 0, false, 17, 2);
        paid(x, 0, true, 4, 1);
    }

    private static void promise13WhoSwearsOrRefuses() {
        WhoMustSwear x = suit("oath p a>0;lose 1 2;both 1 3;bar q=9", 24);
        x.answer(0, 12, true);
        paid(x, 0, true, 12, 1);
        paid(x, 0, false, 18, 1);
        x.known(1, 9);
        paid(x, 0, true, 24, 1);
        paid(x, 0, false, 12, 1);
        x.known(0, 9);
        paid(x, 0, true, 16, 1);
        paid(x, 0, false, 16, 1);
        WhoMustSwear t = suit("oath t a>0;lose 1 2;both 1 3;bar q=9", 24);
        t.answer(0, 12, true);
        paid(t, 0, true, 24, 1);
        paid(t, 0, false, 12, 1);
        t.known(0, 9);
        paid(t, 0, true, 12, 1);
        paid(t, 0, false, 18, 1);
    }

    private static void promise13GoesOver() {
        WhoMustSwear x = suit("oath p a>0;lose 1 2;over w=1|q=3;bar x=1&q=3", 24);
        x.answer(0, 12, true);
        paid(x, 0, false, 18, 1);
        x.proof(0, 0, 1);
        paid(x, 0, false, 24, 1);
        paid(x, 0, true, 12, 1);
        x.proof(0, 0, 2);
        x.known(1, 3);
        paid(x, 0, false, 18, 1);
        x.known(0, 3);
        paid(x, 0, false, 24, 1);
        x.known(1, 0);
        x.proof(0, 1, 1);
        paid(x, 0, false, 18, 1);
        x.proof(0, 0, 1);
        paid(x, 0, false, 18, 1);
        x.known(0, 0);
        paid(x, 0, false, 24, 1);
    }

    /** What the plaintiff refuses, as the one of WHO, goes over to nobody. */
    private static void promise13OverIsForTheDefendant() {
        WhoMustSwear x = suit("oath t a>0;over a>0;lose 1 2", 24);
        paid(x, 0, false, 0, 1);
        WhoMustSwear y = suit("oath p a>0;over a>0;lose 1 2;bar q=1", 24);
        y.known(1, 1);
        paid(y, 0, false, 0, 1);
        y.known(0, 1);
        paid(y, 0, false, 0, 1);
    }

    // ---- promise 14

    private static void promise14SuitsThatThereAre() {
        bounds("all(n, 0, 0)", Twins::furnished, NO, 0, 33, 1, 99, (x, n) -> x.all(n, 0, 0));
        bounds("all(n, 0, 1) of five", Twins::full, NO, 0, 1, 4, 1, (x, n) -> x.all(n, 0, 1));
    }

    private static void promise14ChoicesOfSoManyClaims() {
        for (int claims = 0; claims < 7; claims++) {
            int[] sums = new int[claims];
            int whole = 0;
            for (int k = 0; k < claims; k++) {
                sums[k] = 1 << k;
                whole += sums[k];
            }
            int most = (1 << claims) - 1;
            bounds("all(0, n, 0) of " + claims, () -> suit("oath p a>0", sums), NO, 0, whole, most, 0, (x, n) -> x.all(0, n, 0));
            WhoMustSwear x = suit("oath p a>0", sums);
            for (int choices = 0; choices <= most; choices++) due("all(0, " + choices + ", 0)", x.all(0, choices, 0), whole - choices);
            due("all(0, 1 << 31, 0)", x.all(0, 1 << 31, 0), NO);
            due("all(0, 1 << 6, 0)", x.all(0, 1 << 6, 0), NO);
        }
    }

    private static void promise14PartsAre0And1() {
        bounds("all(0, 3, n)", Twins::furnished, NO, 0, 22, 1, 1, (x, n) -> x.all(0, 3, n));
        unchanged("all(2, 0, 2)", Twins::furnished, NO, x -> x.all(2, 0, 2));
        unchanged("all(0, 4, 2)", Twins::furnished, NO, x -> x.all(0, 4, 2));
    }

    /** By their places in the suit, not by their numbers. */
    private static void promise14Places() {
        WhoMustSwear x = suit("oath p a>0", 1, 2);
        x.suit(1, 0, 0);
        x.claim(1, 4, 0);
        x.claim(0, 8, 0);
        x.claim(1, 16, 0);
        due("all(0, 4, 0): the third of it", x.all(0, 4, 0), 3);
        due("all(1, 1, 0): the first of it", x.all(1, 1, 0), 16);
        due("all(1, 2, 0): the second of it", x.all(1, 2, 0), 4);
        due("all(1, 4, 0)", x.all(1, 4, 0), NO);
    }

    /** A bit of a claim of which nobody must swear is taken, and is nothing to it. */
    private static void promise14NoOath() {
        WhoMustSwear x = suit("free a=1;bind a=2;oath p a=3;bar w=1", 1, 2, 3, 4, 5, 3);
        x.answer(4, 5, true);
        x.proof(5, 0, 1);
        for (int choices = 0; choices < 64; choices++) {
            due("all(0, " + choices + ", 0)", x.all(0, choices, 0), 2 + 5 + ((choices & 4) == 0 ? 3 : 0));
        }
    }

    /** By choices it goes over to a plaintiff who swears, whatever is true. */
    private static void promise14GoesOver() {
        WhoMustSwear x = suit("oath p a>0;over w=1;lose 1 2", 10, 20);
        x.proof(0, 0, 1);
        due("all(0, 0, 0)", x.all(0, 0, 0), 10 + 10);
        due("all(0, 1, 0)", x.all(0, 1, 0), 10);
        due("all(0, 2, 0)", x.all(0, 2, 0), 10);
        due("all(0, 3, 0)", x.all(0, 3, 0), 0);
        due("truly(0)", x.truly(0), 3);
        for (int c = 0; c < 2; c++) x.truth(c, 1);
        due("ends(0, 2, 0): it goes over, and the plaintiff cannot swear", x.ends(0, 2, 0), 10);
        due("all(0, 0, 0)", x.all(0, 0, 0), 10 + 10);
    }

    private static void promise14AtTheMost() {
        WhoMustSwear x = suit("oath p a>0;lose 99 98;both 97 96;bar w=1", 99, 99, 99, 99, 99, 98);
        x.proof(5, 0, 1);
        due("all(0, 0, 0)", x.all(0, 0, 0), x.all(0, 0, 1), 5L * 99 * 99 * 24 + 49L * 97 * 49, 98 * 24);
        due("all(0, 63, 0)", x.all(0, 63, 0), x.all(0, 63, 1), 49 * 97, 48);
    }

    // ---- promise 15

    private static void promise15SuitsThatThereAre() {
        bounds("ends(n, 1, 0)", Twins::furnished, NO, 0, 33, 1, 129, (x, n) -> x.ends(n, 1, 0));
        bounds("ends(n, 1, 1) of five", Twins::full, NO, 0, 1, 4, 1, (x, n) -> x.ends(n, 1, 1));
    }

    private static void promise15WhatIs0To2() {
        bounds("ends(0, n, 0)", Twins::furnished, NO, 0, 22, 2, 32, (x, n) -> x.ends(0, n, 0));
        bounds("ends(1, n, 1)", Twins::furnished, NO, 0, 1, 2, 1, (x, n) -> x.ends(1, n, 1));
    }

    private static void promise15PartsAre0And1() {
        bounds("ends(0, 2, n)", Twins::furnished, NO, 0, 32, 1, 1, (x, n) -> x.ends(0, 2, n));
        unchanged("ends(2, 3, 2)", Twins::furnished, NO, x -> x.ends(2, 3, 2));
    }

    private static void promise15LeastAndMost() {
        WhoMustSwear one = suit("oath p a>0;lose 2 3", 10);
        ends(one, 0, 0, 1);
        ends(one, 1, 20, 3);
        WhoMustSwear t = suit("oath t a>0", 10);
        ends(t, 0, 0, 1);
        ends(t, 1, 10, 1);
        WhoMustSwear both = suit("oath p a>0;bar a>0;both 2 3", 10);
        ends(both, 0, 20, 3);
        ends(both, 1, 20, 3);
        WhoMustSwear all = suit("oath p a=9|a=6|a=1;oath t a=7;bind a=4;roll a=3;lose 3 2;both 1 2;bar a=1", 9, 7, 4, 3, 2, 1);
        ends(all, 0, 9, 2);
        ends(all, 1, 27 + 14 + 8 + 9 + 1, 2);
        WhoMustSwear over = suit("oath p a>0;over a>0;lose 1 9", 10);
        ends(over, 0, 0, 1);
        ends(over, 1, 10, 1);
    }

    private static void promise15NoClaims() {
        WhoMustSwear none = suit("oath p a>0");
        for (int what = 0; what < 3; what++) ends(none, what, 0, 1);
    }

    // ---- promises 15 and 16: truly

    private static void truly(String law, int admitted, int owed, int bits, long above, long below) {
        WhoMustSwear x = suit(law, 10);
        x.answer(0, admitted, true);
        x.truth(0, owed);
        due("truly(0) by " + law + ", owed " + owed + " of " + admitted, x.truly(0), bits);
        ends(x, 2, above, below);
    }

    private static void promise16TheDefendant() {
        String law = "oath p a>0;lose 1 4";
        truly(law, 0, 0, 1, 0, 1);
        truly(law, 0, 1, 0, 5, 2);
        truly(law, 6, 5, 1, 6, 1);
        truly(law, 6, 6, 1, 6, 1);
        truly(law, 6, 7, 0, 7, 1);
        truly(law, 9, 9, 1, 9, 1);
        truly(law, 9, 10, 0, 37, 4);
        truly(law, 9, 99, 0, 37, 4);
        truly(law, 10, 99, 0, 10, 1);
        for (char kind : new char[] {'p', 'o', 'g', 'c'}) {
            truly("oath " + kind + " a>0;lose 1 4", 6, 6, 1, 6, 1);
            truly("oath " + kind + " a>0;lose 1 4", 6, 7, 0, 7, 1);
        }
    }

    private static void promise16TheHeir() {
        String law = "oath h a>0;lose 1 4";
        for (int owed : new int[] {0, 6, 7, 9, 10, 11, 99}) truly(law, 6, owed, 1, 6, 1);
        String barred = "oath h a>0;bar q=0&y=6";
        for (int owed : new int[] {0, 6, 7, 10, 99}) truly(barred, 6, owed, 0, 6, 1);
    }

    /** The plaintiff in the heir's stead swears by what is true. */
    private static void promise16ThePlaintiffForTheHeir() {
        for (int owed : new int[] {0, 9, 10, 99}) {
            WhoMustSwear x = suit("oath h a>0;bar q=1", 10);
            x.known(1, 1);
            x.truth(0, owed);
            due("truly(0), owed " + owed, x.truly(0), owed >= 10 ? 1 : 0);
            ends(x, 2, owed >= 10 ? 10 : 0, 1);
        }
    }

    private static void promise16ThePlaintiff() {
        String law = "oath t a>0";
        truly(law, 0, 0, 0, 0, 1);
        truly(law, 0, 9, 0, 0, 1);
        truly(law, 0, 10, 1, 10, 1);
        truly(law, 0, 11, 1, 10, 1);
        truly(law, 0, 99, 1, 10, 1);
        truly(law, 4, 9, 0, 4, 1);
        truly(law, 4, 10, 1, 10, 1);
        truly(law, 10, 99, 0, 10, 1);
        WhoMustSwear x = suit("oath t a>0", 99);
        x.truth(0, 98);
        due("truly(0) of 99", x.truly(0), 0);
        x.truth(0, 99);
        due("truly(0) of 99", x.truly(0), 1);
    }

    private static void promise16ItGoesOver() {
        String law = "oath p a>0;over a>0;lose 1 4";
        truly(law, 4, 4, 1, 4, 1);
        truly(law, 4, 5, 0, 4, 1);
        truly(law, 4, 9, 0, 4, 1);
        truly(law, 4, 10, 0, 10, 1);
        truly(law, 4, 99, 0, 10, 1);
        truly("oath h a>0;over a>0", 4, 99, 1, 4, 1);
    }

    private static void promise16NoOath() {
        for (String law : new String[] {"free a>0", "bind a>0", "roll a>0", "oath p a=1", "oath p a>0;least 99"}) {
            for (int owed : new int[] {0, 10, 99}) truly(law, 0, owed, 0, law.startsWith("bind") ? 10 : 0, 1);
        }
    }

    private static void promise16SuitsThatThereAre() {
        bounds("truly(n)", Twins::furnished, NONE, 0, 2, 1, 1, (x, n) -> x.truly(n));
        bounds("truly(n) of five", Twins::full, NONE, 0, 0, 4, 0, (x, n) -> x.truly(n));
        due("truly(0) of six claims", suit("oath p a>0", 1, 2, 3, 4, 5, 6).truly(0), 63);
        due("truly(0) of none", suit("oath p a>0").truly(0), 0);
    }

    // ---- promise 17

    private static void promise17SuitsThatThereAre() {
        bounds("rolled(n, 1)", Twins::furnished, NONE, 0, 1, 1, 0, (x, n) -> x.rolled(n, 1));
        bounds("rolled(n, 0) of five", Twins::full, NONE, 0, -5, 4, -5, (x, n) -> x.rolled(n, 0));
    }

    private static void promise17WhatIs0Or1() {
        bounds("rolled(0, n)", Twins::furnished, NONE, 0, 0, 1, 1, (x, n) -> x.rolled(0, n));
        bounds("rolled(1, n)", Twins::furnished, NONE, 0, -5, 1, 0, (x, n) -> x.rolled(1, n));
    }

    private static void promise17NoneToFive() {
        for (int many = 0; many < 6; many++) {
            int[] sums = new int[many + 1];
            for (int k = 0; k <= many; k++) sums[k] = k == many ? 9 : 1;
            WhoMustSwear x = suit("oath p a=9;roll a=1", sums);
            due("rolled(0, 1) of " + many, x.rolled(0, 1), many);
            due("rolled(0, 0) of " + many, x.rolled(0, 0), many == 0 ? -5 : many);
        }
        due("rolled(0, 0) of no claims", suit("roll a>0").rolled(0, 0), -5);
        due("rolled(0, 1) of no claims", suit("roll a>0").rolled(0, 1), 0);
    }

    private static void promise17TheClaimsNumber() {
        WhoMustSwear x = suit("oath p a=9;roll a=1", 9, 1);
        x.suit(2, 3, 0);
        for (int sum : new int[] {1, 9, 9}) x.claim(1, sum, 0);
        due("rolled(0, 0)", x.rolled(0, 0), 0);
        due("rolled(1, 0): the least of two", x.rolled(1, 0), 3);
        due("rolled(1, 1)", x.rolled(1, 1), 1);
        x.answer(3, 9, true);
        due("rolled(1, 0)", x.rolled(1, 0), 4);
        x.answer(4, 9, true);
        due("rolled(1, 0)", x.rolled(1, 0), -5);
        due("rolled(1, 1)", x.rolled(1, 1), 0);
        WhoMustSwear last = suits(5);
        due("law()", written(last, "oath p a=9;roll a=1"), 1);
        due("rolled(4, 0) of no claims", last.rolled(4, 0), -5);
    }

    /** Rolled is rolled, whoever then swears. */
    private static void promise17WhoeverSwears() {
        WhoMustSwear x = suit("oath p a=9;roll a=1;bar a=1", 1, 9);
        due("due(0, 2)", x.due(0, 2), 2);
        due("rolled(0, 0)", x.rolled(0, 0), 1);
        due("rolled(0, 1)", x.rolled(0, 1), 1);
    }

    public static void main(String[] args) {
        promise13ClaimsThatThereAre();
        promise13PartsAre0And1();
        promise13AtTheMost();
        promise13AtTheLeast();
        promise13WithoutLoseAndBoth();
        promise13TheLastClauseCounts();
        promise13FiguresOfNAndD();
        promise13LowestTerms();
        promise13WhoSwearsOrRefuses();
        promise13GoesOver();
        promise13OverIsForTheDefendant();
        promise14SuitsThatThereAre();
        promise14ChoicesOfSoManyClaims();
        promise14PartsAre0And1();
        promise14Places();
        promise14NoOath();
        promise14GoesOver();
        promise14AtTheMost();
        promise15SuitsThatThereAre();
        promise15WhatIs0To2();
        promise15PartsAre0And1();
        promise15LeastAndMost();
        promise15NoClaims();
        promise16TheDefendant();
        promise16TheHeir();
        promise16ThePlaintiffForTheHeir();
        promise16ThePlaintiff();
        promise16ItGoesOver();
        promise16NoOath();
        promise16SuitsThatThereAre();
        promise17SuitsThatThereAre();
        promise17WhatIs0Or1();
        promise17NoneToFive();
        promise17TheClaimsNumber();
        promise17WhoeverSwears();
        end("BoundsPaidTest");
    }
}
