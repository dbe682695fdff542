/** The bounds of promises 1 to 8: the numbers from .. to, what is refused beside them, and in which order. */
public final class BoundsSuitsTest extends Twins {
    // ---- promise 1

    private static void promise1HasNothing() {
        Maker anew = WhoMustSwear::new;
        noNumber("suit(0, 1, n)", anew, NONE, (x, n) -> x.suit(0, 1, n));
        noNumber("claim(n, 1, 0)", anew, NONE, (x, n) -> x.claim(n, 1, 0));
        noNumber("answer(n, 0, true)", anew, NONE, (x, n) -> x.answer(n, 0, true));
        noNumber("proof(n, 0, 0)", anew, NONE, (x, n) -> x.proof(n, 0, 0));
        noNumber("truth(n, 0)", anew, NONE, (x, n) -> x.truth(n, 0));
        noNumber("of(n, 0)", anew, NONE, (x, n) -> x.of(n, 0));
        noNumber("comes(n)", anew, NONE, (x, n) -> x.comes(n));
        noNumber("due(n, 0)", anew, NONE, (x, n) -> x.due(n, 0));
        noNumber("paid(n, true, 0)", anew, NO, (x, n) -> x.paid(n, true, 0));
        noNumber("all(n, 0, 0)", anew, NO, (x, n) -> x.all(n, 0, 0));
        noNumber("ends(n, 0, 0)", anew, NO, (x, n) -> x.ends(n, 0, 0));
        noNumber("truly(n)", anew, NONE, (x, n) -> x.truly(n));
        noNumber("rolled(n, 0)", anew, NONE, (x, n) -> x.rolled(n, 0));
        noNumber("best(n, -1)", anew, NONE, (x, n) -> x.best(n, -1));
        noNumber("slips(n)", anew, NONE, (x, n) -> x.slips(n));
        noNumber("wise(n)", anew, NONE, (x, n) -> x.wise(n));
        noNumber("off(n, n, 0)", anew, NO, (x, n) -> x.off(n, n, 0));
        noNumber("beside(n, 0, 0)", anew, NONE, (x, n) -> x.beside(n, 0, 0));
        noNumber("ways(n, 0, 0)", anew, NONE, (x, n) -> x.ways(n, 0, 0));
        noNumber("judge(0, 0, n)", anew, NONE, (x, n) -> x.judge(0, 0, n));
        noNumber("trace(n)", anew, NONE, (x, n) -> x.trace(n));
        unchanged("undo()", anew, STATE, WhoMustSwear::undo);
    }

    private static void promise1FirstNumbersAre0() {
        WhoMustSwear x = new WhoMustSwear();
        due("law()", written(x, "free a>0"), 0);
        due("suit(7, 6, 0)", x.suit(7, 6, 0), 0);
        due("claim(0, 1, 0)", x.claim(0, 1, 0), 0);
    }

    // ---- promise 2

    private static void promise2PersonsAre0To7() {
        bounds("known(n, 3)", Twins::furnished, NONE, 0, 4, 7, 17, (x, n) -> x.known(n, 3));
        bounds("known(n, 3) of a new one", WhoMustSwear::new, NONE, 0, 0, 7, 0, (x, n) -> x.known(n, 3));
    }

    private static void promise2BitsAre0To31() {
        bounds("known(7, n)", Twins::furnished, BAD, 0, 17, 31, 17, (x, n) -> x.known(7, n));
        bounds("known(0, n)", Twins::furnished, BAD, 0, 4, 31, 4, (x, n) -> x.known(0, n));
        WhoMustSwear x = new WhoMustSwear();
        for (int p = 0; p < 8; p += 7) {
            int was = 0;
            for (int bits = 31; bits >= 0; bits--) {
                due("known(" + p + ", " + bits + ")", x.known(p, bits), was);
                was = bits;
            }
        }
    }

    private static void promise2NoneIsFirst() {
        for (int bits : new int[] {-1, 32}) {
            unchanged("known(8, " + bits + ")", Twins::furnished, NONE, x -> x.known(8, bits));
            unchanged("known(-1, " + bits + ")", Twins::furnished, NONE, x -> x.known(-1, bits));
        }
    }

    // ---- promise 3

    private static WhoMustSwear sixLaws() {
        WhoMustSwear x = new WhoMustSwear();
        for (int k = 0; k < 6; k++) written(x, "least " + k);
        return x;
    }

    private static void promise3PersonsAre0To7() {
        bounds("suit(n, 3, 0)", Twins::furnished, NONE, 0, 2, 7, 2, (x, n) -> x.suit(n, 3, 0));
        bounds("suit(3, n, 0)", Twins::furnished, NONE, 0, 2, 7, 2, (x, n) -> x.suit(3, n, 0));
        due("suit(0, 7, 0)", furnished().suit(0, 7, 0), 2);
        due("suit(7, 0, 0)", furnished().suit(7, 0, 0), 2);
    }

    private static void promise3LawsThatThereAre() {
        bounds("suit(3, 4, n) with one law", () -> suits(0), NONE, 0, 0, 0, 0, (x, n) -> x.suit(3, 4, n));
        bounds("suit(3, 4, n) with two laws", Twins::furnished, NONE, 0, 2, 1, 2, (x, n) -> x.suit(3, 4, n));
        bounds("suit(3, 4, n) with six laws", BoundsSuitsTest::sixLaws, NONE, 0, 0, 5, 0, (x, n) -> x.suit(3, 4, n));
    }

    private static void promise3OnePersonIsBad() {
        for (int p = 0; p < 8; p++) {
            int q = p;
            unchanged("suit(" + p + ", " + p + ", 0)", Twins::furnished, BAD, x -> x.suit(q, q, 0));
        }
    }

    private static void promise3FiveAreTaken() {
        for (int n = 0; n < 5; n++) due("suit(0, 1, 0) with " + n, suits(n).suit(0, 1, 0), n);
        unchanged("suit(0, 1, 0) with 5", () -> suits(5), FULL, x -> x.suit(0, 1, 0));
        unchanged("suit(6, 7, 5) when all is full", Twins::full, FULL, x -> x.suit(6, 7, 5));
    }

    private static void promise3NoneBadFull() {
        unchanged("suit(8, 8, 0)", Twins::furnished, NONE, x -> x.suit(8, 8, 0));
        unchanged("suit(-1, -1, 0)", Twins::furnished, NONE, x -> x.suit(-1, -1, 0));
        unchanged("suit(3, 3, 2)", Twins::furnished, NONE, x -> x.suit(3, 3, 2));
        unchanged("suit(3, 3, -1)", Twins::furnished, NONE, x -> x.suit(3, 3, -1));
        unchanged("suit(3, 3, 5) of 5", Twins::full, BAD, x -> x.suit(3, 3, 5));
        unchanged("suit(3, 8, 5) of 5", Twins::full, NONE, x -> x.suit(3, 8, 5));
        unchanged("suit(-1, 3, 5) of 5", Twins::full, NONE, x -> x.suit(-1, 3, 5));
        unchanged("suit(3, 4, 6) of 5", Twins::full, NONE, x -> x.suit(3, 4, 6));
    }

    /** Nothing forbids several suits of the same persons, nor the same law in them. */
    private static void promise3SamePersons() {
        WhoMustSwear x = suits(1);
        due("suit(0, 1, 0) again", x.suit(0, 1, 0), 1);
        due("suit(1, 0, 0)", x.suit(1, 0, 0), 2);
    }

    // ---- promise 4

    private static void promise4SuitsThatThereAre() {
        bounds("claim(n, 9, 0) of one suit", () -> suits(1), NONE, 0, 0, 0, 0, (x, n) -> x.claim(n, 9, 0));
        bounds("claim(n, 9, 0) of two suits", Twins::furnished, NONE, 0, 4, 1, 4, (x, n) -> x.claim(n, 9, 0));
        bounds("claim(n, 9, 0) of five suits", () -> suits(5), NONE, 0, 0, 4, 0, (x, n) -> x.claim(n, 9, 0));
        noNumber("claim(n, 9, 0) of no suit", () -> suits(0), NONE, (x, n) -> x.claim(n, 9, 0));
    }

    private static void promise4SumsAre1To99() {
        bounds("claim(0, n, 0)", Twins::furnished, BAD, 1, 4, 99, 4, (x, n) -> x.claim(0, n, 0));
        WhoMustSwear x = suits(1);
        x.claim(0, 1, 0);
        x.claim(0, 99, 0);
        due("of(0, 1)", x.of(0, 1), 1);
        due("of(1, 1)", x.of(1, 1), 99);
    }

    private static void promise4SortsAre0To2() {
        bounds("claim(0, 9, n)", Twins::furnished, BAD, 0, 4, 2, 4, (x, n) -> x.claim(0, 9, n));
        WhoMustSwear x = suits(1);
        for (int sort = 0; sort < 3; sort++) x.claim(0, 9, sort);
        for (int sort = 0; sort < 3; sort++) due("of(" + sort + ", 2)", x.of(sort, 2), sort);
    }

    private static WhoMustSwear claimsOfOne(int n) {
        WhoMustSwear x = suits(2);
        for (int c = 0; c < n; c++) x.claim(1, 9, 0);
        return x;
    }

    private static void promise4SixOfASuit() {
        for (int n = 0; n < 6; n++) due("claim(1, 9, 0) with " + n, claimsOfOne(n).claim(1, 9, 0), n);
        unchanged("claim(1, 9, 0) with 6", () -> claimsOfOne(6), FULL, x -> x.claim(1, 9, 0));
        due("claim(0, 9, 0) with 6 of another", claimsOfOne(6).claim(0, 9, 0), 6);
    }

    private static WhoMustSwear claims(int n) {
        WhoMustSwear x = suits(5);
        for (int c = 0; c < n; c++) x.claim(c / 6, 9, 0);
        return x;
    }

    private static void promise4TwentyFour() {
        due("claim(3, 9, 0) with 23", claims(23).claim(3, 9, 0), 23);
        due("claim(4, 9, 0) with 23", claims(23).claim(4, 9, 0), 23);
        unchanged("claim(4, 9, 0) with 24: of this suit there is none", () -> claims(24), FULL, x -> x.claim(4, 9, 0));
        for (int s = 0; s < 5; s++) {
            int suit = s;
            unchanged("claim(" + s + ", 9, 0) when all is full", Twins::full, FULL, x -> x.claim(suit, 9, 0));
        }
    }

    private static void promise4NoneBadFull() {
        unchanged("claim(2, 0, 0)", Twins::furnished, NONE, x -> x.claim(2, 0, 0));
        unchanged("claim(-1, 9, 3)", Twins::furnished, NONE, x -> x.claim(-1, 9, 3));
        unchanged("claim(0, 0, 0) of 24", Twins::full, BAD, x -> x.claim(0, 0, 0));
        unchanged("claim(0, 100, 0) of 24", Twins::full, BAD, x -> x.claim(0, 100, 0));
        unchanged("claim(0, 9, 3) of 24", Twins::full, BAD, x -> x.claim(0, 9, 3));
        unchanged("claim(0, 9, -1) of 24", Twins::full, BAD, x -> x.claim(0, 9, -1));
        unchanged("claim(5, 9, 0) of 24", Twins::full, NONE, x -> x.claim(5, 9, 0));
        unchanged("claim(1, 100, 0) of 6 of a suit", () -> claimsOfOne(6), BAD, x -> x.claim(1, 100, 0));
        unchanged("claim(2, 9, 0) of 6 of a suit", () -> claimsOfOne(6), NONE, x -> x.claim(2, 9, 0));
    }

    private static void promise4AtFirst() {
        WhoMustSwear x = claims(24);
        int[] first = {3, 9, 0, 0, 1, 0, 0, 0, 0, 0};
        for (int what = 0; what < 10; what++) due("of(23, " + what + ")", x.of(23, what), first[what]);
    }

    // ---- promise 5

    private static WhoMustSwear oneClaim(int sum) {
        WhoMustSwear x = suits(1);
        x.claim(0, sum, 0);
        return x;
    }

    private static void promise5ClaimsThatThereAre() {
        bounds("answer(n, 0, true)", Twins::furnished, NONE, 0, 20, 3, 0, (x, n) -> x.answer(n, 0, true));
        bounds("answer(n, 1, false) of 24", Twins::full, NONE, 0, 0, 23, 0, (x, n) -> x.answer(n, 1, false));
        noNumber("answer(n, 0, true) of none", () -> suits(1), NONE, (x, n) -> x.answer(n, 0, true));
    }

    private static void promise5AdmittedIs0ToTheSum() {
        for (int sum : new int[] {1, 2, 50, 98, 99}) {
            for (int so = 0; so < 2; so++) {
                boolean known = so == 1;
                bounds("answer(0, n, " + known + ") of " + sum, () -> oneClaim(sum), BAD, 0, 0, sum, 0, (x, n) -> x.answer(0, n, known));
            }
            WhoMustSwear x = oneClaim(sum);
            x.answer(0, sum, false);
            due("of(0, 3) of " + sum, x.of(0, 3), sum);
            due("answer(0, 0, true) of " + sum, x.answer(0, 0, true), sum);
            due("of(0, 3) of " + sum, x.of(0, 3), 0);
        }
        bounds("answer(0, n, true) of 50 with 20", Twins::furnished, BAD, 0, 20, 50, 20, (x, n) -> x.answer(0, n, true));
    }

    private static void promise5NoneIsFirst() {
        unchanged("answer(4, -1, true)", Twins::furnished, NONE, x -> x.answer(4, -1, true));
        unchanged("answer(-1, 100, true)", Twins::furnished, NONE, x -> x.answer(-1, 100, true));
    }

    // ---- promise 6

    private static void promise6ClaimsThatThereAre() {
        bounds("proof(n, 0, 2)", Twins::furnished, NONE, 0, 1, 3, 0, (x, n) -> x.proof(n, 0, 2));
        bounds("proof(n, 3, 1) of 24", Twins::full, NONE, 0, 0, 23, 0, (x, n) -> x.proof(n, 3, 1));
    }

    private static void promise6WhatIs0To3() {
        bounds("proof(0, n, 0)", Twins::furnished, NONE, 0, 1, 3, 0, (x, n) -> x.proof(0, n, 0));
        bounds("proof(3, n, 1)", Twins::furnished, NONE, 0, 0, 3, 1, (x, n) -> x.proof(3, n, 1));
    }

    private static void promise6Witnesses0To3() {
        bounds("proof(0, 0, n)", Twins::furnished, BAD, 0, 1, 3, 1, (x, n) -> x.proof(0, 0, n));
        WhoMustSwear x = oneClaim(9);
        int was = 0;
        for (int n : new int[] {3, 2, 1, 0, 3}) {
            due("proof(0, 0, " + n + ")", x.proof(0, 0, n), was);
            due("of(0, 5)", x.of(0, 5), n);
            was = n;
        }
    }

    private static void promise6OthersAre0Or1() {
        for (int w = 1; w < 4; w++) {
            int what = w;
            bounds("proof(" + w + ", " + w + ", n)", Twins::furnished, BAD, 0, 1, 1, 1, (x, n) -> x.proof(what, what, n));
            WhoMustSwear x = oneClaim(9);
            due("proof(0, " + w + ", 1)", x.proof(0, w, 1), 0);
            due("of(0, " + (5 + w) + ")", x.of(0, 5 + w), 1);
            due("proof(0, " + w + ", 1) again", x.proof(0, w, 1), 1);
            due("proof(0, " + w + ", 0)", x.proof(0, w, 0), 1);
            due("of(0, " + (5 + w) + ")", x.of(0, 5 + w), 0);
            due("of(0, 5)", x.of(0, 5), 0);
        }
    }

    private static void promise6NoneIsFirst() {
        unchanged("proof(4, 0, 4)", Twins::furnished, NONE, x -> x.proof(4, 0, 4));
        unchanged("proof(-1, 1, -1)", Twins::furnished, NONE, x -> x.proof(-1, 1, -1));
        unchanged("proof(0, 4, 2)", Twins::furnished, NONE, x -> x.proof(0, 4, 2));
        unchanged("proof(0, -1, 4)", Twins::furnished, NONE, x -> x.proof(0, -1, 4));
    }

    // ---- promise 7

    private static void promise7ClaimsThatThereAre() {
        bounds("truth(n, 8)", Twins::furnished, NONE, 0, 60, 3, 7, (x, n) -> x.truth(n, 8));
        bounds("truth(n, 8) of 24", Twins::full, NONE, 0, 0, 23, 0, (x, n) -> x.truth(n, 8));
    }

    /** What is true may be more than the sum, and than what is admitted. */
    private static void promise7OwedIs0To99() {
        bounds("truth(0, n)", Twins::furnished, BAD, 0, 60, 99, 60, (x, n) -> x.truth(0, n));
        bounds("truth(0, n) of a sum of 1", () -> oneClaim(1), BAD, 0, 0, 99, 0, (x, n) -> x.truth(0, n));
        WhoMustSwear x = oneClaim(1);
        due("truth(0, 99)", x.truth(0, 99), 0);
        due("of(0, 9)", x.of(0, 9), 99);
        due("truth(0, 0)", x.truth(0, 0), 99);
        due("of(0, 9)", x.of(0, 9), 0);
    }

    private static void promise7NoneIsFirst() {
        unchanged("truth(4, 100)", Twins::furnished, NONE, x -> x.truth(4, 100));
        unchanged("truth(-1, -1)", Twins::furnished, NONE, x -> x.truth(-1, -1));
    }

    // ---- promise 8

    private static void promise8ClaimsThatThereAre() {
        bounds("of(n, 1)", Twins::furnished, NONE, 0, 50, 3, 99, (x, n) -> x.of(n, 1));
        bounds("of(n, 1) of 24", Twins::full, NONE, 0, 1, 23, 24, (x, n) -> x.of(n, 1));
        noNumber("of(n, 1) of none", () -> suits(1), NONE, (x, n) -> x.of(n, 1));
    }

    private static void promise8WhatIs0To9() {
        bounds("of(0, n)", Twins::furnished, NONE, 0, 0, 9, 60, (x, n) -> x.of(0, n));
        bounds("of(3, n)", Twins::furnished, NONE, 0, 1, 9, 7, (x, n) -> x.of(3, n));
    }

    private static void promise8Most() {
        WhoMustSwear x = suits(5);
        x.claim(4, 99, 2);
        x.answer(0, 99, true);
        x.proof(0, 0, 3);
        for (int what = 1; what < 4; what++) x.proof(0, what, 1);
        x.truth(0, 99);
        int[] most = {4, 99, 2, 99, 1, 3, 1, 1, 1, 99};
        for (int what = 0; what < 10; what++) due("of(0, " + what + ") at the most", x.of(0, what), most[what]);
    }

    public static void main(String[] args) {
        promise1HasNothing();
        promise1FirstNumbersAre0();
        promise2PersonsAre0To7();
        promise2BitsAre0To31();
        promise2NoneIsFirst();
        promise3PersonsAre0To7();
        promise3LawsThatThereAre();
        promise3OnePersonIsBad();
        promise3FiveAreTaken();
        promise3NoneBadFull();
        promise3SamePersons();
        promise4SuitsThatThereAre();
        promise4SumsAre1To99();
        promise4SortsAre0To2();
        promise4SixOfASuit();
        promise4TwentyFour();
        promise4NoneBadFull();
        promise4AtFirst();
        promise5ClaimsThatThereAre();
        promise5AdmittedIs0ToTheSum();
        promise5NoneIsFirst();
        promise6ClaimsThatThereAre();
        promise6WhatIs0To3();
        promise6Witnesses0To3();
        promise6OthersAre0Or1();
        promise6NoneIsFirst();
        promise7ClaimsThatThereAre();
        promise7OwedIs0To99();
        promise7NoneIsFirst();
        promise8ClaimsThatThereAre();
        promise8WhatIs0To9();
        promise8Most();
        end("BoundsSuitsTest");
    }
}
