/** Promises 2 to 8: persons, suits, claims. */
public final class SuitsTest extends Checks {
    private static final int LEAST = Integer.MIN_VALUE, MOST = Integer.MAX_VALUE;

    private static void promise2Known() {
        WhoMustSwear x = new WhoMustSwear();
        due("known(0, 31)", x.known(0, 31), 0);
        due("known(0, 1)", x.known(0, 1), 31);
        due("known(0, 0)", x.known(0, 0), 1);
        due("known(7, 16)", x.known(7, 16), 0);
        due("known(6, 2)", x.known(6, 2), 0);
        due("known(7, 3)", x.known(7, 3), 16);
        due("known(7, 32)", x.known(7, 32), -2);
        due("known(7, -1)", x.known(7, -1), -2);
        due("known(8, 0)", x.known(8, 0), -1);
        due("known(-1, 0)", x.known(-1, 0), -1);
        due("known(8, 32)", x.known(8, 32), -1);
        due("known(least, 0)", x.known(LEAST, 0), -1);
        due("known(most, 0)", x.known(MOST, 0), -1);
        due("known(7, 0) after what was refused", x.known(7, 0), 3);
    }

    private static void promise3Suit() {
        WhoMustSwear x = new WhoMustSwear();
        due("suit(0, 1, 0) without a law", x.suit(0, 1, 0), -1);
        due("law()", law(x, "free a>0"), 0);
        due("suit(0, 1, 1)", x.suit(0, 1, 1), -1);
        due("suit(0, 1, -1)", x.suit(0, 1, -1), -1);
        due("suit(8, 1, 0)", x.suit(8, 1, 0), -1);
        due("suit(-1, 1, 0)", x.suit(-1, 1, 0), -1);
        due("suit(0, 8, 0)", x.suit(0, 8, 0), -1);
        due("suit(0, -1, 0)", x.suit(0, -1, 0), -1);
        due("suit(3, 3, 1): NONE ahead of BAD", x.suit(3, 3, 1), -1);
        due("suit(3, 3, 0)", x.suit(3, 3, 0), -2);
        due("count(0)", x.count(0), 0);
        for (int k = 0; k < 5; k++) due("suit " + k, x.suit(k, 7, 0), k);
        due("suit(0, 1, 0): full", x.suit(0, 1, 0), -4);
        due("suit(1, 1, 0): BAD ahead of FULL", x.suit(1, 1, 0), -2);
        due("suit(1, 9, 0): NONE ahead of FULL", x.suit(1, 9, 0), -1);
        due("count(0)", x.count(0), 5);
    }

    private static void promise4Claim() {
        WhoMustSwear x = suited("free a>0");
        due("claim(1, 1, 0)", x.claim(1, 1, 0), -1);
        due("claim(-1, 1, 0)", x.claim(-1, 1, 0), -1);
        due("claim(1, 0, 0): NONE ahead of BAD", x.claim(1, 0, 0), -1);
        due("claim(0, 0, 0)", x.claim(0, 0, 0), -2);
        due("claim(0, 100, 0)", x.claim(0, 100, 0), -2);
        due("claim(0, least, 0)", x.claim(0, LEAST, 0), -2);
        due("claim(0, 1, 3)", x.claim(0, 1, 3), -2);
        due("claim(0, 1, -1)", x.claim(0, 1, -1), -2);
        for (int s = 1; s < 5; s++) due("suit " + s, x.suit(0, 1, 0), s);
        for (int k = 0; k < 6; k++) due("claim(0, ..) " + k, x.claim(0, k == 0 ? 99 : 1, 2), k);
        due("claim(0, 1, 0): 6 of it", x.claim(0, 1, 0), -4);
        due("claim(0, 0, 0): BAD ahead of FULL", x.claim(0, 0, 0), -2);
        for (int k = 6; k < 24; k++) due("claim " + k, x.claim(1 + k % 4, 1, 0), k);
        due("claim(1, 1, 0): 24 there are", x.claim(1, 1, 0), -4);
        due("claim(2, 1, 0): 24 there are", x.claim(2, 1, 0), -4);
        due("count(1)", x.count(1), 24);
    }

    private static void promise5Answer() {
        WhoMustSwear x = suited("free a>0", 50, 7);
        due("answer(0, 50, false)", x.answer(0, 50, false), 0);
        due("of(0, 3)", x.of(0, 3), 50);
        due("of(0, 4)", x.of(0, 4), 0);
        due("answer(0, 51, true)", x.answer(0, 51, true), -2);
        due("answer(0, -1, true)", x.answer(0, -1, true), -2);
        due("of(0, 4) after what was refused", x.of(0, 4), 0);
        due("answer(0, 3, true)", x.answer(0, 3, true), 50);
        due("of(0, 4)", x.of(0, 4), 1);
        due("answer(0, 0, true)", x.answer(0, 0, true), 3);
        due("answer(1, 8, true)", x.answer(1, 8, true), -2);
        due("answer(1, 7, true)", x.answer(1, 7, true), 0);
        due("answer(2, 0, true)", x.answer(2, 0, true), -1);
        due("answer(-1, -1, true): NONE ahead of BAD", x.answer(-1, -1, true), -1);
    }

    private static void promise6Proof() {
        WhoMustSwear x = suited("free a>0", 50, 7);
        due("proof(0, 0, 3)", x.proof(0, 0, 3), 0);
        due("proof(0, 0, 1)", x.proof(0, 0, 1), 3);
        due("proof(0, 0, 4)", x.proof(0, 0, 4), -2);
        due("proof(0, 0, -1)", x.proof(0, 0, -1), -2);
        due("proof(0, 0, 0)", x.proof(0, 0, 0), 1);
        for (int what = 1; what < 4; what++) {
            due("proof(1, " + what + ", 1)", x.proof(1, what, 1), 0);
            for (int other = 0; other < 4; other++) due("of(1, " + (5 + other) + ")", x.of(1, 5 + other), other == what ? 1 : 0);
            due("of(0, " + (5 + what) + ")", x.of(0, 5 + what), 0);
            due("proof(1, " + what + ", 2)", x.proof(1, what, 2), -2);
            due("proof(1, " + what + ", -1)", x.proof(1, what, -1), -2);
            due("proof(1, " + what + ", 0)", x.proof(1, what, 0), 1);
        }
        due("proof(0, 4, 0)", x.proof(0, 4, 0), -1);
        due("proof(0, -1, 0)", x.proof(0, -1, 0), -1);
        due("proof(2, 0, 0)", x.proof(2, 0, 0), -1);
        due("proof(0, 4, 9): NONE ahead of BAD", x.proof(0, 4, 9), -1);
    }

    private static void promise7Truth() {
        WhoMustSwear x = suited("free a>0", 50);
        due("truth(0, 99)", x.truth(0, 99), 0);
        due("truth(0, 100)", x.truth(0, 100), -2);
        due("truth(0, -1)", x.truth(0, -1), -2);
        due("truth(0, 0)", x.truth(0, 0), 99);
        due("truth(1, 0)", x.truth(1, 0), -1);
        due("truth(1, 100): NONE ahead of BAD", x.truth(1, 100), -1);
        due("of(0, 9)", x.of(0, 9), 0);
    }

    private static void promise8Of() {
        WhoMustSwear x = suited("free a>0", 50);
        due("suit(2, 3, 0)", x.suit(2, 3, 0), 1);
        due("claim(1, 44, 2)", x.claim(1, 44, 2), 1);
        int[] first = {1, 44, 2, 0, 1, 0, 0, 0, 0, 0};
        for (int what = 0; what < 10; what++) due("of(1, " + what + ")", x.of(1, what), first[what]);
        x.answer(1, 9, false);
        x.proof(1, 0, 2);
        x.proof(1, 1, 1);
        x.proof(1, 3, 1);
        x.truth(1, 33);
        int[] then = {1, 44, 2, 9, 0, 2, 1, 0, 1, 33};
        for (int what = 0; what < 10; what++) due("of(1, " + what + ")", x.of(1, what), then[what]);
        due("of(0, 0)", x.of(0, 0), 0);
        due("of(0, 1)", x.of(0, 1), 50);
        due("of(0, 10)", x.of(0, 10), -1);
        due("of(0, -1)", x.of(0, -1), -1);
        due("of(2, 0)", x.of(2, 0), -1);
        due("of(-1, 0)", x.of(-1, 0), -1);
    }

    public static void main(String[] args) {
        promise2Known();
        promise3Suit();
        promise4Claim();
        promise5Answer();
        promise6Proof();
        promise7Truth();
        promise8Of();
        end("SuitsTest");
    }
}
