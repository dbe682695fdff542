/** Promises 13 to 17: what is paid by a claim, by choices, at the ends and truly, and what is rolled. */
public final class PaidTest extends Checks {
    private static void paid(WhoMustSwear x, int claim, boolean so, long above, long below) {
        due("paid(" + claim + ", " + so + ")", x.paid(claim, so, 0), x.paid(claim, so, 1), above, below);
    }

    private static void all(WhoMustSwear x, int choices, long above, long below) {
        due("all(0, " + choices + ")", x.all(0, choices, 0), x.all(0, choices, 1), above, below);
    }

    private static void ends(WhoMustSwear x, int what, long above, long below) {
        due("ends(0, " + what + ")", x.ends(0, what, 0), x.ends(0, what, 1), above, below);
    }

    private static void promise13Undisputed() {
        WhoMustSwear x = suited("free a=10;bind a=11;oath p a>50;roll a=13", 10, 11, 12, 13, 14);
        for (int k = 0; k < 5; k++) x.answer(k, 4, true);
        x.answer(4, 14, true);
        for (int so = 0; so < 2; so++) {
            paid(x, 0, so == 1, 4, 1);
            paid(x, 1, so == 1, 11, 1);
            paid(x, 2, so == 1, 4, 1);
            paid(x, 3, so == 1, 4, 1);
            paid(x, 4, so == 1, 14, 1);
        }
        paid(suited("free a>0", 3), 0, true, 0, 1);
    }

    private static void promise13Sworn() {
        WhoMustSwear x = suited("oath p a>0;lose 2 6;both 3 4;bar q=1", 10);
        x.answer(0, 3, true);
        paid(x, 0, true, 3, 1);
        paid(x, 0, false, 16, 3);
        x.known(1, 1);
        paid(x, 0, true, 10, 1);
        paid(x, 0, false, 3, 1);
        x.known(0, 1);
        paid(x, 0, true, 33, 4);
        paid(x, 0, false, 33, 4);
        paid(suited("oath t a>0", 8), 0, true, 8, 1);
        paid(suited("oath t a>0", 8), 0, false, 0, 1);
    }

    private static void promise13Shares() {
        paid(suited("oath p a>0", 8), 0, false, 8, 1);
        paid(suited("oath p a>0;bar q=0", 8), 0, false, 0, 1);
        paid(suited("oath p a>0;lose 1 2;lose 1 3", 8), 0, false, 8, 3);
        paid(suited("both 1 5;oath p a>0;both 99 2;bar a>0", 8), 0, false, 396, 1);
        paid(suited("oath p a>0;lose 0 7", 8), 0, false, 0, 1);
        paid(suited("oath p a>0;lose 98 99", 99), 0, false, 98, 1);
        paid(suited("oath p a>0;lose 97 98", 99), 0, false, 9603, 98);
        paid(suited("oath p a>0;lose 04 06;both 5 7", 8), 0, false, 16, 3);
    }

    private static void promise13Over() {
        WhoMustSwear x = suited("oath p a>0;over q=2;lose 1 2;bar q=3|q=2&w=1", 10);
        paid(x, 0, false, 5, 1);
        x.known(1, 2);
        paid(x, 0, false, 5, 1);
        x.known(0, 2);
        paid(x, 0, false, 10, 1);
        paid(x, 0, true, 0, 1);
        x.known(1, 0);
        x.proof(0, 0, 1);
        paid(x, 0, false, 5, 1);
        WhoMustSwear y = suited("oath t a>0;over a>0", 10);
        paid(y, 0, false, 0, 1);
    }

    private static void promise13Rolled() {
        WhoMustSwear x = suited("oath p a=9;roll a=5;over w=1;lose 1 4", 5, 9);
        due("comes(0)", x.comes(0), 4);
        paid(x, 0, false, 5, 4);
        paid(x, 0, true, 0, 1);
        x.proof(1, 0, 1);
        paid(x, 0, false, 5, 4);
        paid(x, 1, false, 9, 1);
        x.proof(0, 0, 1);
        paid(x, 0, false, 5, 1);
    }

    private static void promise13Wrong() {
        WhoMustSwear x = suited("oath p a>0", 5);
        due("paid(1, true, 0)", x.paid(1, true, 0), NO);
        due("paid(-1, true, 0)", x.paid(-1, true, 0), NO);
        due("paid(0, true, 2)", x.paid(0, true, 2), NO);
        due("paid(0, true, -1)", x.paid(0, true, -1), NO);
    }

    private static void promise14All() {
        WhoMustSwear x = suited("oath p a<10;bind a=10;oath t a=11;lose 1 3;both 1 4;bar a=8", 7, 8, 9, 10, 11, 12);
        x.answer(0, 1, true);
        all(x, 0, 1 + 2 + 2 + 3 + 10, 1);
        all(x, 1, 1 + 2 + 3 + 10, 1);
        all(x, 4, 1 + 2 + 2 + 10, 1);
        all(x, 63 - 16, 1 + 2 + 10, 1);
        all(x, 63, 1 + 2 + 10 + 11, 1);
        x.answer(1, 1, true);
        all(x, 0, 75, 4);
    }

    private static void promise14Fractions() {
        WhoMustSwear x = suited("oath p a>0;lose 1 6;both 1 4;bar a=3", 5, 3);
        all(x, 0, 19, 12);
        all(x, 1, 3, 4);
        all(x, 2, 19, 12);
        due("all(0, 4, 0)", x.all(0, 4, 0), NO);
        due("all(0, 7, 1)", x.all(0, 7, 1), NO);
        due("all(0, -1, 0)", x.all(0, -1, 0), NO);
        due("all(0, least, 0)", x.all(0, Integer.MIN_VALUE, 0), NO);
        due("all(0, 0, 2)", x.all(0, 0, 2), NO);
        due("all(0, 0, -1)", x.all(0, 0, -1), NO);
        due("all(1, 0, 0)", x.all(1, 0, 0), NO);
        due("all(-1, 0, 0)", x.all(-1, 0, 0), NO);
        WhoMustSwear none = suited("oath p a>0");
        all(none, 0, 0, 1);
        due("all(0, 1, 0)", none.all(0, 1, 0), NO);
        WhoMustSwear two = suited("free a>0", 5);
        two.suit(2, 3, 0);
        two.claim(1, 9, 0);
        two.answer(1, 9, true);
        all(two, 1, 0, 1);
        due("all(1, 0, 0)", two.all(1, 0, 0), 9);
        due("all(1, 2, 0)", two.all(1, 2, 0), NO);
    }

    private static void promise15Ends() {
        WhoMustSwear x = suited("oath p a<9;oath t a=9;lose 5 3;both 1 2;bar a=8", 6, 8, 9);
        x.answer(0, 1, true);
        ends(x, 0, 1 + 4, 1);
        ends(x, 1, 67, 3);
        ends(x, 2, 1 + 4, 1);
    }

    private static void promise15Least() {
        WhoMustSwear x = suited("oath p a=6;oath t a=9;lose 5 3;both 1 2;bar a=8;oath p a=8", 6, 8, 9);
        ends(x, 0, 4, 1);
        ends(x, 1, 10 + 4 + 9, 1);
        WhoMustSwear y = suited("oath p a>0;lose 0 1", 6);
        ends(y, 0, 0, 1);
        ends(y, 1, 0, 1);
        WhoMustSwear none = suited("oath p a>0");
        for (int what = 0; what < 3; what++) ends(none, what, 0, 1);
        due("ends(0, 3, 0)", x.ends(0, 3, 0), NO);
        due("ends(0, -1, 0)", x.ends(0, -1, 0), NO);
        due("ends(0, 0, 2)", x.ends(0, 0, 2), NO);
        due("ends(1, 0, 0)", x.ends(1, 0, 0), NO);
        due("ends(-1, 0, 0)", x.ends(-1, 0, 0), NO);
    }

    private static void promise15Truly() {
        WhoMustSwear x = suited("oath p a>0;lose 1 4;over q=1", 10);
        x.answer(0, 4, true);
        x.truth(0, 4);
        ends(x, 2, 4, 1);
        x.truth(0, 5);
        ends(x, 2, 11, 2);
        x.known(0, 1);
        ends(x, 2, 4, 1);
        x.truth(0, 9);
        ends(x, 2, 4, 1);
        x.truth(0, 10);
        ends(x, 2, 10, 1);
        x.truth(0, 11);
        ends(x, 2, 10, 1);
        WhoMustSwear t = suited("oath t a>0", 10);
        t.truth(0, 9);
        ends(t, 2, 0, 1);
        t.truth(0, 10);
        ends(t, 2, 10, 1);
    }

    private static void truly(String law, int owed, int bits) {
        WhoMustSwear x = suited(law, 10);
        x.answer(0, 4, true);
        x.truth(0, owed);
        due("truly(0) by " + law + " with " + owed, x.truly(0), bits);
    }

    private static void promise16Truly() {
        truly("oath p a>0", 4, 1);
        truly("oath p a>0", 5, 0);
        truly("oath p a>0;over a>0", 10, 0);
        truly("oath h a>0", 99, 1);
        truly("oath h a>0;bar q=0", 4, 0);
        truly("oath g a>0", 99, 0);
        truly("oath t a>0", 10, 1);
        truly("oath t a>0", 99, 1);
        truly("oath t a>0", 9, 0);
        truly("oath t a>0;bar a=1", 0, 0);
        truly("free a>0", 0, 0);
        truly("bind a>0", 99, 0);
        truly("roll a>0", 0, 0);
        WhoMustSwear x = suited("oath h a=5;oath t a=6;roll a=7;bar q=1", 4, 5, 6, 7);
        for (int k = 0; k < 4; k++) x.truth(k, 6);
        due("truly(0)", x.truly(0), 2 + 4 + 8);
        x.known(1, 1);
        due("truly(0): the plaintiff swears the heir's oath", x.truly(0), 2 + 4);
        x.known(0, 1);
        due("truly(0): nobody swears", x.truly(0), 0);
        due("truly(1)", x.truly(1), -1);
        due("truly(-1)", x.truly(-1), -1);
        due("truly(0) of no claims", suited("free a>0").truly(0), 0);
    }

    private static void promise17Rolled() {
        WhoMustSwear x = suited("oath p a=9|a=8;roll a<8", 5, 9, 6, 8, 7, 99);
        due("rolled(0, 0)", x.rolled(0, 0), 1);
        due("rolled(0, 1)", x.rolled(0, 1), 3);
        x.answer(1, 9, true);
        due("rolled(0, 0)", x.rolled(0, 0), 3);
        x.answer(3, 8, true);
        due("rolled(0, 0)", x.rolled(0, 0), -5);
        due("rolled(0, 1)", x.rolled(0, 1), 0);
        x.suit(2, 3, 0);
        x.claim(1, 9, 0);
        due("rolled(1, 0): due, but none is rolled", x.rolled(1, 0), -5);
        x.claim(1, 1, 0);
        due("rolled(1, 0): the claim's own number", x.rolled(1, 0), 6);
        due("rolled(1, 1)", x.rolled(1, 1), 1);
        due("rolled(0, 1): not by the oath of another suit", x.rolled(0, 1), 0);
        due("rolled(0, 2)", x.rolled(0, 2), -1);
        due("rolled(0, -1)", x.rolled(0, -1), -1);
        due("rolled(2, 0)", x.rolled(2, 0), -1);
        due("rolled(-1, 0)", x.rolled(-1, 0), -1);
    }

    public static void main(String[] args) {
        promise13Undisputed();
        promise13Sworn();
        promise13Shares();
        promise13Over();
        promise13Rolled();
        promise13Wrong();
        promise14All();
        promise14Fractions();
        promise15Ends();
        promise15Least();
        promise15Truly();
        promise16Truly();
        promise17Rolled();
        end("PaidTest");
    }
}
