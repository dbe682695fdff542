/** The bounds of promises 18 to 20: 4 claims at most, each answer, which row is first, the sums 1 and 99. */
public final class BoundsAnswersTest extends Twins {
    private static WhoMustSwear suit(String law, int... sums) {
        WhoMustSwear x = new WhoMustSwear();
        due("law() of " + law, written(x, law), 0);
        x.suit(0, 1, 0);
        for (int sum : sums) x.claim(0, sum, 0);
        return x;
    }

    private static void best(WhoMustSwear x, int oaths, int... answers) {
        due("best(0, -1)", x.best(0, -1), oaths);
        for (int k = 0; k < answers.length; k++) due("best(0, " + k + ")", x.best(0, k), answers[k]);
    }

    private static int[] sums(int n) {
        int[] sums = new int[n];
        for (int k = 0; k < n; k++) sums[k] = 9;
        return sums;
    }

    // ---- promise 18

    private static void promise18SuitsThatThereAre() {
        bounds("best(n, 0)", Twins::furnished, NONE, 0, 0, 1, 0, (x, n) -> x.best(n, 0));
        bounds("best(n, -1) of five suits", () -> suits(5), NONE, 0, 0, 4, 0, (x, n) -> x.best(n, -1));
        for (int i : new int[] {-2, -1, 0, 5, LEAST, MOST}) {
            unchanged("best(2, " + i + ")", Twins::furnished, NONE, x -> x.best(2, i));
        }
    }

    private static void promise18FourClaimsAtMost() {
        for (int n = 0; n < 5; n++) {
            due("best(0, -1) of " + n, suit("oath p a>0", sums(n)).best(0, -1), n);
            due("slips(0) of " + n, suit("bind a>0", sums(n)).slips(0), new int[] {1, 5, 25, 125, 625}[n]);
        }
        for (int n = 5; n < 7; n++) {
            int claims = n;
            for (int i : new int[] {-2, -1, 0, 4, 5, 6, LEAST, MOST}) {
                unchanged("best(0, " + i + ") of " + n, () -> suit("oath p a>0", sums(claims)), TOO_MANY, x -> x.best(0, i));
            }
            unchanged("slips(0) of " + n, () -> suit("oath p a>0", sums(claims)), TOO_MANY, x -> x.slips(0));
        }
        unchanged("best(0, 0) of five", Twins::full, TOO_MANY, x -> x.best(0, 0));
        due("best(4, 0) of four", full().best(4, 0), 0);
    }

    private static void promise18PlacesThatThereAre() {
        for (int n = 0; n < 5; n++) {
            int claims = n;
            bounds("best(0, n) of " + n, () -> suit("oath p a>0", sums(claims)), NONE, -1, n, n - 1, n == 0 ? n : 0, (x, i) -> x.best(0, i));
        }
    }

    /** By the place in the suit, not by the claim's number. */
    private static void promise18Places() {
        WhoMustSwear x = suit("bind y=0", 9);
        x.suit(1, 0, 0);
        x.claim(1, 9, 0);
        x.claim(1, 9, 0);
        x.claim(0, 9, 0);
        x.truth(1, 1);
        due("best(1, 0): claim 1", x.best(1, 0), 2);
        due("best(1, 1): claim 2", x.best(1, 1), 3);
        due("best(1, 2)", x.best(1, 2), -1);
        due("best(0, 0)", x.best(0, 0), 3);
        due("best(0, 1): claim 3", x.best(0, 1), 3);
    }

    /** All is bound that is not so answered. */
    private static void promise18EachAnswer() {
        best(suit("bind u=1|y>0", 9), 0, 0);
        best(suit("bind u=0", 9), 0, 4);
        WhoMustSwear one = suit("oath p a>0;lose 99 1", 9);
        one.truth(0, 9);
        best(one, 0, 1);
        WhoMustSwear two = suit("bind y=0|y=4|y=9", 9);
        two.truth(0, 8);
        best(two, 0, 2);
        WhoMustSwear three = suit("bind y=0|y=8|y=9", 9);
        three.truth(0, 8);
        best(three, 0, 3);
    }

    private static void promise18HalfIsCut() {
        int[] sums = {1, 2, 3, 98, 99};
        for (int sum : sums) {
            int half = sum / 2;
            WhoMustSwear x = suit("bind !y=" + half + "|u=1", sum);
            x.truth(0, 99);
            due("best(0, 0) of half of " + sum, x.best(0, 0), half == 0 ? 0 : 3);
            WhoMustSwear y = suit("bind y<" + sum + "&!y=" + half + "|u=1", sum);
            y.truth(0, 99);
            due("best(0, 0) of half or all of " + sum, y.best(0, 0), half == 0 ? 0 : 3);
        }
    }

    /** More than the sum is not admitted: that would be paid beyond it. */
    private static void promise18TruthIsAdmittedToTheSum() {
        for (int owed : new int[] {8, 9, 10, 99}) {
            WhoMustSwear x = suit("bind a>0", 9);
            x.truth(0, owed);
            due("slips(0), owed " + owed, x.slips(0), 5);
            WhoMustSwear y = suit("oath p y<9", 9);
            y.truth(0, owed);
            due("slips(0) without an oath, owed " + owed, y.slips(0), owed < 9 ? 0 : 2);
        }
        WhoMustSwear most = suit("bind a>0", 99);
        most.truth(0, 99);
        due("slips(0) of 99", most.slips(0), 5);
        WhoMustSwear least = suit("bind a>0", 1);
        least.truth(0, 99);
        due("slips(0) of 1", least.slips(0), 5);
        least.truth(0, 0);
        due("slips(0) of 1, owed 0", least.slips(0), 5);
    }

    private static void promise18KnownButByTheFourth() {
        WhoMustSwear x = suit("bind u=1|y<3", 9);
        x.answer(0, 5, false);
        x.truth(0, 4);
        best(x, 0, 2);
        WhoMustSwear y = suit("bind u=0|y>0", 9);
        y.answer(0, 5, true);
        best(y, 0, 4);
    }

    /** The least paid is ahead of the fewest oaths. */
    private static void promise18TheLeastIsPaid() {
        best(suit("oath p u=0;bind u=1&a=1", 1), 1, 0);
        best(suit("oath p u=0;bind u=1&a=1", 1, 1), 2, 0, 0);
        best(suit("oath p u=0;bind u=1&a=1", 1, 2), 1, 0, 4);
        best(suit("oath p u=0;bind u=1&a=1;free u=1", 1, 2), 0, 4, 4);
        WhoMustSwear x = suit("oath p a>0;lose 1 9;bind a=1", 9, 1);
        x.truth(0, 8);
        best(x, 1, 0, 0);
    }

    private static void promise18ThenTheFewestOaths() {
        best(suit("oath p u=0", 9, 9), 0, 4, 4);
        best(suit("oath p a=9&u=0;roll a=8&u=0", 9, 8), 0, 4, 0);
        best(suit("oath p a=9&u=0;roll a=8&u=0;free a=9&u=1&w=1", 9, 8), 0, 4, 0);
        best(suit("oath t a=9&u=0;oath p u=1", 9, 9), 0, 0, 0);
        best(suit("bar q=0;oath p u=0;both 0 1", 9), 0, 0);
    }

    /** The first place's answer goes slowest: of (0, 4) and (4, 0) the first comes first. */
    private static void promise18ThenTheFirstRow() {
        best(suit("free a>0", 9, 9, 9, 9), 0, 0, 0, 0, 0);
        WhoMustSwear x = suit("oath p a=9&u=0;oath o a=8&u=0;roll a=7", 9, 8);
        best(x, 0, 4, 4);
        WhoMustSwear y = new WhoMustSwear();
        due("law()", written(y, "oath p y=0;lose 3 1;free u=1&w=1"), 0);
        y.suit(0, 1, 0);
        y.claim(0, 9, 0);
        y.claim(0, 9, 0);
        best(y, 2, 0, 0);
        y.proof(0, 0, 1);
        best(y, 1, 4, 0);
        y.proof(0, 0, 0);
        y.proof(1, 0, 1);
        best(y, 1, 0, 4);
        WhoMustSwear either = suit("bind a=9&y<9&u=0|a=9&y>0;bind a=8&u=0|a=8&y>0", 9, 8);
        best(either, 0, 4, 4);
    }

    // ---- promise 19

    private static void promise19SuitsThatThereAre() {
        bounds("slips(n)", Twins::furnished, NONE, 0, 0, 1, 10, (x, n) -> x.slips(n));
        bounds("slips(n) of five suits", () -> suits(5), NONE, 0, 1, 4, 1, (x, n) -> x.slips(n));
    }

    private static void promise19NoMoreIsPaid() {
        WhoMustSwear x = suit("free u=1", 9);
        due("slips(0): 0 and 4, and 2, by which 0 is admitted", x.slips(0), 3);
        x.truth(0, 1);
        due("slips(0): 0 and 4", x.slips(0), 2);
        WhoMustSwear y = suit("free a>0", 1);
        due("slips(0): 3 admits 0 of 1", y.slips(0), 4);
        y.truth(0, 1);
        due("slips(0): 2 admits all", y.slips(0), 3);
    }

    private static void promise19NoOathIsDue() {
        due("slips(0): a turned oath is due", suit("oath t u=0", 9).slips(0), 1);
        due("slips(0): one that nobody may swear", suit("oath p u=0;bar a>0", 9).slips(0), 1);
        due("slips(0): all are due", suit("oath p a>0", 9).slips(0), 0);
        due("slips(0): of one of two", suit("oath p a=9", 9, 8).slips(0), 0);
        due("slips(0): nothing is open", suit("oath p y=0", 9).slips(0), 0);
        WhoMustSwear x = suit("oath p y<9", 9);
        x.truth(0, 9);
        due("slips(0): all is admitted, by 1 and by 2", x.slips(0), 2);
    }

    // ---- promise 20

    private static void promise20ClaimsThatThereAre() {
        bounds("wise(n)", Twins::furnished, NONE, 0, 99, 3, 99, (x, n) -> x.wise(n));
        bounds("wise(n) of 24", Twins::full, NONE, 0, 1, 23, 1, (x, n) -> x.wise(n));
        noNumber("wise(n) of none", () -> suits(1), NONE, (x, n) -> x.wise(n));
    }

    private static void promise20SumsAre1To99() {
        due("wise(0) bound at 1", suit("bind a=1", 50).wise(0), 1);
        due("wise(0) bound at 99", suit("bind a=99", 50).wise(0), 99);
        due("wise(0) bound at all", suit("bind a>0", 50).wise(0), 99);
        due("wise(0) bound at all of 1", suit("bind a>0", 1).wise(0), 99);
        due("wise(0) bound at 1 and 2", suit("bind a<3", 50).wise(0), 2);
        due("wise(0) bound at 98", suit("bind a<99", 50).wise(0), 98);
        due("wise(0) of 99", suit("bind a=3", 99).wise(0), 3);
    }

    private static void promise20TheLeastOfSeveral() {
        due("wise(0) of nothing paid", suit("free a>0", 50).wise(0), 1);
        due("wise(0) bound at none", suit("bind a=0", 50).wise(0), 1);
        WhoMustSwear x = suit("bind a=9;oath p a=27|a=54;lose 1 3", 50);
        x.truth(0, 1);
        due("wise(0): 9 of 9 and of 27 are less than 18 of 54", x.wise(0), 54);
        WhoMustSwear y = suit("bind a=9;oath p a=27;lose 1 3", 50);
        y.truth(0, 1);
        due("wise(0): 9 of 9, 9 of 27", y.wise(0), 9);
        WhoMustSwear z = suit("bind a=9;oath p a=28;lose 1 3", 50);
        z.truth(0, 1);
        due("wise(0): 9 and a third of 28", z.wise(0), 28);
    }

    private static void promise20AdmittedIsNoMore() {
        for (int admitted : new int[] {1, 7, 50}) {
            WhoMustSwear x = suit("free a>0", 50);
            x.answer(0, admitted, true);
            due("wise(0) with " + admitted + " admitted", x.wise(0), admitted);
            due("of(0, 3)", x.of(0, 3), admitted);
        }
        WhoMustSwear all = suit("free a>0", 99);
        all.answer(0, 99, true);
        due("wise(0) with 99 admitted", all.wise(0), 99);
        WhoMustSwear few = suit("bind a=4;oath t a=3", 9);
        few.answer(0, 6, true);
        due("wise(0): 6 are admitted from 6 on", few.wise(0), 6);
    }

    private static void promise20WhatIsTrueStays() {
        for (int owed : new int[] {1, 50, 98, 99}) {
            WhoMustSwear x = suit("oath t a>0", 9);
            x.truth(0, owed);
            due("wise(0), owed " + owed, x.wise(0), owed);
        }
        due("wise(0), owed 0", suit("oath t a>0", 9).wise(0), 1);
    }

    public static void main(String[] args) {
        promise18SuitsThatThereAre();
        promise18FourClaimsAtMost();
        promise18PlacesThatThereAre();
        promise18Places();
        promise18EachAnswer();
        promise18HalfIsCut();
        promise18TruthIsAdmittedToTheSum();
        promise18KnownButByTheFourth();
        promise18TheLeastIsPaid();
        promise18ThenTheFewestOaths();
        promise18ThenTheFirstRow();
        promise19SuitsThatThereAre();
        promise19NoMoreIsPaid();
        promise19NoOathIsDue();
        promise20ClaimsThatThereAre();
        promise20SumsAre1To99();
        promise20TheLeastOfSeveral();
        promise20AdmittedIsNoMore();
        promise20WhatIsTrueStays();
        end("BoundsAnswersTest");
    }
}
