/** The bounds of promises 21 to 26: two suits, two laws, judging, the image. */
public final class BoundsTwoTest extends Twins {
    private static void off(WhoMustSwear x, int first, int second, long above, long below) {
        due("off(" + first + ", " + second + ")", x.off(first, second, 0), x.off(first, second, 1), above, below);
    }

    // ---- promise 21

    private static void promise21SuitsThatThereAre() {
        for (int n : new int[] {-1, 2, LEAST, MOST}) {
            unchanged("off(" + n + ", 1, 0)", Twins::furnished, NO, x -> x.off(n, 1, 0));
            unchanged("off(1, " + n + ", 0)", Twins::furnished, NO, x -> x.off(1, n, 0));
            unchanged("off(" + n + ", " + n + ", 0)", Twins::furnished, NO, x -> x.off(n, n, 0));
        }
        due("off(0, 1, 0)", furnished().off(0, 1, 0), 32 - 129);
        due("off(1, 0, 0)", furnished().off(1, 0, 0), 129 - 32);
        WhoMustSwear x = suits(4);
        due("suit(1, 0, 0)", x.suit(1, 0, 0), 4);
        off(x, 0, 4, 0, 1);
        off(x, 4, 3, 0, 1);
        due("off(5, 0, 0)", x.off(5, 0, 0), NO);
        due("off(0, 5, 0)", x.off(0, 5, 0), NO);
    }

    private static void promise21PartsAre0And1() {
        bounds("off(0, 1, n)", Twins::furnished, NO, 0, -97, 1, 1, (x, n) -> x.off(0, 1, n));
        bounds("off(1, 0, n)", Twins::furnished, NO, 0, 97, 1, 1, (x, n) -> x.off(1, 0, n));
    }

    /** NO plus 1 for each pair but the same two the other way round. */
    private static void promise21TheSameTwo() {
        int[][] pairs = {{0, 1}, {1, 0}, {0, 2}, {2, 1}, {1, 2}};
        for (int a = 0; a < 5; a++) {
            for (int b = 0; b < 5; b++) {
                WhoMustSwear x = suits(0);
                for (int[] p : pairs) x.suit(p[0], p[1], 0);
                boolean so = pairs[a][0] == pairs[b][1] && pairs[a][1] == pairs[b][0];
                due("off(" + a + ", " + b + ", 0)", x.off(a, b, 0), so ? 0 : NO + 1);
                due("off(" + a + ", " + b + ", 1)", x.off(a, b, 1), so ? 1 : NO + 1);
            }
        }
        unchanged("off(0, 0, 0)", Twins::furnished, NO + 1, x -> x.off(0, 0, 0));
    }

    private static void promise21NoIsFirst() {
        unchanged("off(0, 0, 2)", Twins::furnished, NO, x -> x.off(0, 0, 2));
        unchanged("off(1, 1, -1)", Twins::furnished, NO, x -> x.off(1, 1, -1));
        unchanged("off(0, 2, 0)", Twins::furnished, NO, x -> x.off(0, 2, 0));
    }

    private static WhoMustSwear against(String one, String other, int sum) {
        WhoMustSwear x = new WhoMustSwear();
        written(x, one);
        written(x, other);
        x.suit(0, 1, 0);
        x.suit(1, 0, 1);
        x.claim(0, sum, 0);
        x.claim(1, sum, 0);
        x.truth(0, 99);
        x.truth(1, 99);
        return x;
    }

    private static void promise21Fractions() {
        off(against("oath p a>0;lose 99 98", "oath p a>0;lose 98 97", 99), 0, 1, (99L * 97 - 98L * 98) * 99, 98 * 97);
        off(against("oath p a>0;lose 1 98", "oath p a>0;lose 1 97", 99), 0, 1, -99, 98 * 97);
        off(against("oath p a>0;lose 1 2", "oath p a>0;lose 1 4", 2), 0, 1, 1, 2);
        off(against("oath p a>0;lose 1 4", "oath p a>0;lose 1 2", 2), 0, 1, -1, 2);
        off(against("oath p a>0;lose 1 2", "oath p a>0;lose 2 4", 7), 0, 1, 0, 1);
        off(against("oath p a>0;lose 99 1", "oath p a>0;lose 0 99", 99), 0, 1, 9801, 1);
        off(against("oath p a>0;lose 0 99", "oath p a>0;lose 99 1", 99), 0, 1, -9801, 1);
        off(against("oath p a>0;lose 1 99;both 1 98", "oath p a>0;lose 1 97;both 1 95", 1), 0, 1, -2, 99 * 97);
    }

    private static void promise21AtTheMost() {
        WhoMustSwear x = new WhoMustSwear();
        written(x, "bar w=1;oath p a>0;lose 99 98;both 97 96");
        written(x, "bar w=1;oath p a>0;lose 94 95;both 92 93");
        x.suit(0, 1, 0);
        x.suit(1, 0, 1);
        for (int c = 0; c < 12; c++) {
            x.claim(c / 6, 99, 0);
            x.truth(c, 99);
            if (c % 2 == 0) x.proof(c, 0, 1);
        }
        long a = 3L * 99 * 99, b = 3L * 99 * 97, c = 3L * 99 * 94, d = 3L * 99 * 92;
        long above = (a * 96 + b * 98) * 95 * 93 - (c * 93 + d * 95) * 98 * 96;
        long below = 98L * 96 * 95 * 93;
        long one = above, other = below;
        while (other != 0) {
            long rest = one % other;
            one = other;
            other = rest;
        }
        off(x, 0, 1, above / Math.abs(one), below / Math.abs(one));
        off(x, 1, 0, -above / Math.abs(one), below / Math.abs(one));
    }

    // ---- promise 22

    private static void promise22ClaimsAndLawsThatThereAre() {
        bounds("beside(n, 0, 1)", Twins::furnished, NONE, 0, 32, 3, 32, (x, n) -> x.beside(n, 0, 1));
        bounds("beside(0, n, 1)", Twins::furnished, NONE, 0, 32, 1, 22, (x, n) -> x.beside(0, n, 1));
        bounds("beside(0, 1, n)", Twins::furnished, NONE, 0, 23, 1, 22, (x, n) -> x.beside(0, 1, n));
        bounds("beside(n, 0, 5) of 24", Twins::full, NONE, 0, 11, 23, 11, (x, n) -> x.beside(n, 0, 5));
        bounds("beside(0, n, 5) of six laws", Twins::full, NONE, 0, 11, 5, 11, (x, n) -> x.beside(0, n, 5));
        bounds("beside(0, 5, n) of six laws", Twins::full, NONE, 0, 11, 5, 11, (x, n) -> x.beside(0, 5, n));
    }

    private static void promise22EachTwo() {
        String[] texts = {"free a=1", "bind a=1", "oath p a=1", "roll a=1;oath p a=2", "free a=2"};
        int[] comes = {1, 2, 3, 4, 5};
        for (int one = 0; one < 5; one++) {
            for (int other = 0; other < 5; other++) {
                WhoMustSwear x = new WhoMustSwear();
                for (String text : texts) written(x, text);
                x.suit(0, 1, 4);
                x.claim(0, 1, 0);
                x.claim(0, 2, 0);
                due("beside(0, " + one + ", " + other + ")", x.beside(0, one, other), comes[one] * 10 + comes[other]);
                x.answer(0, 1, true);
                due("beside(0, ..) with nothing open", x.beside(0, one, other), 0);
            }
        }
    }

    // ---- promise 23

    private static void promise23ClaimsAndLawsThatThereAre() {
        bounds("ways(n, 0, 1)", Twins::furnished, NONE, 0, 40, 3, 1, (x, n) -> x.ways(n, 0, 1));
        bounds("ways(1, n, 1)", Twins::furnished, NONE, 0, 3, 1, -5, (x, n) -> x.ways(1, n, 1));
        bounds("ways(1, 1, n)", Twins::furnished, NONE, 0, 3, 1, -5, (x, n) -> x.ways(1, 1, n));
        bounds("ways(n, 0, 5) of 24", Twins::full, NONE, 0, -5, 23, -5, (x, n) -> x.ways(n, 0, 5));
        bounds("ways(0, n, 5) of six laws", Twins::full, NONE, 0, -5, 5, -5, (x, n) -> x.ways(0, n, 5));
        bounds("ways(0, 5, n) of six laws", Twins::full, NONE, 0, -5, 5, -5, (x, n) -> x.ways(0, 5, n));
    }

    private static int ways(String one, String other, int admitted) {
        WhoMustSwear x = new WhoMustSwear();
        written(x, one);
        written(x, other);
        x.suit(0, 1, 0);
        x.claim(0, 50, 0);
        x.answer(0, admitted, true);
        return x.ways(0, 0, 1);
    }

    private static void promise23SumsAre1To99() {
        due("ways at 1", ways("free a=1", "free a=0", 0), 1);
        due("ways at 2", ways("free a<2", "free a<3", 0), 2);
        due("ways at 50", ways("free a=50", "free a=0", 0), 50);
        due("ways at 98", ways("free a=98", "free a>98", 0), 98);
        due("ways at 99", ways("free a=99", "free a=0", 0), 99);
        due("ways at none", ways("free a=0", "free a>99", 0), -5);
        due("ways of likes", ways("free a>0;bind a>0", "bind a=0;free a<99;free a=99", 0), -5);
        due("ways at all", ways("free a>0", "bind a>0", 0), 1);
    }

    private static void promise23AdmittedIsNoMore() {
        for (int admitted : new int[] {0, 1, 7, 49, 50}) {
            due("ways with " + admitted + " admitted", ways("free a>0", "bind a>0", admitted), admitted + 1);
        }
        due("ways: 7 of 8 to 99 are admitted", ways("free y=7", "free y=8", 7), 8);
        due("ways: 7 are never 8", ways("free y=8", "free y>7", 7), -5);
        due("ways: open is 92 at 99", ways("free o=92", "free a=0", 7), 99);
        due("ways: open is never 93", ways("free o=93", "free a=0", 7), -5);
        WhoMustSwear x = new WhoMustSwear();
        written(x, "free a>0");
        written(x, "bind a>0");
        x.suit(0, 1, 0);
        x.claim(0, 99, 0);
        x.answer(0, 99, true);
        due("ways with 99 admitted", x.ways(0, 0, 1), -5);
        x.answer(0, 98, true);
        due("ways with 98 admitted", x.ways(0, 0, 1), 99);
    }

    // ---- promise 24

    private static WhoMustSwear judged(int size, int from) {
        WhoMustSwear x = new WhoMustSwear();
        written(x, "free a=1;bind a=2;oath p a=3;roll a=4");
        x.suit(0, 1, 0);
        for (int sum = 1; sum < 7; sum++) x.claim(0, sum, 0);
        x.answer(5, 6, true);
        x.tape(0, 0, size);
        int[] comes = {1, 2, 3, 4, 5, 0};
        for (int k = 0; k < 6; k++) x.item(0, from + k, comes[k]);
        return x;
    }

    private static void promise24TapesAndSuitsThatThereAre() {
        bounds("judge(n, 0, 0)", Twins::furnished, NONE, 0, -5, 5, 100, (x, n) -> x.judge(n, 0, 0));
        bounds("judge(0, 0, n)", Twins::furnished, NONE, 0, -5, 1, 1, (x, n) -> x.judge(0, 0, n));
        bounds("judge(0, 0, n) of five", Twins::full, NONE, 0, 100, 4, 100, (x, n) -> x.judge(0, 0, n));
        for (int tape : new int[] {-1, 6, LEAST, MOST}) {
            unchanged("judge(" + tape + ", 0, 2)", Twins::furnished, NONE, x -> x.judge(tape, 0, 2));
        }
    }

    private static void promise24NoneAheadOfCast() {
        unchanged("judge(1, 0, 0)", Twins::furnished, CAST, x -> x.judge(1, 0, 0));
        unchanged("judge(4, 0, 1)", Twins::furnished, CAST, x -> x.judge(4, 0, 1));
        unchanged("judge(1, 0, 2)", Twins::furnished, NONE, x -> x.judge(1, 0, 2));
        unchanged("judge(1, 0, -1)", Twins::furnished, NONE, x -> x.judge(1, 0, -1));
    }

    /** Another sort is CAST ahead of any place, though it be a row of none. */
    private static void promise24OnlyBytes() {
        for (int sort = 1; sort < 5; sort++) {
            for (int size : new int[] {0, 6, 60}) {
                WhoMustSwear x = judged(6, 0);
                x.tape(0, sort, size);
                for (int i : new int[] {LEAST, -1, 0, 60, MOST}) due("judge(0, " + i + ", 0) of sort " + sort, x.judge(0, i, 0), -12);
            }
        }
    }

    private static void promise24TheFirstThatIsWrong() {
        for (int wrong = 0; wrong < 6; wrong++) {
            WhoMustSwear x = judged(6, 0);
            for (int k = wrong; k < 6; k++) x.item(0, k, 9);
            due("judge(0, 0, 0) wrong from " + wrong, x.judge(0, 0, 0), wrong);
        }
        due("judge(0, 0, 0)", judged(6, 0).judge(0, 0, 0), -5);
        for (int item : new int[] {-1, 0, 2, 6, 127, -128, 1 + 128}) {
            WhoMustSwear x = judged(6, 0);
            x.item(0, 0, item);
            due("judge(0, 0, 0) of " + item, x.judge(0, 0, 0), 0);
        }
        WhoMustSwear x = judged(6, 0);
        x.item(0, 0, 256 + 1);
        due("judge(0, 0, 0): of a byte that was cut", x.judge(0, 0, 0), -5);
    }

    private static void promise24BeyondTheRow() {
        for (int size = 0; size < 6; size++) due("judge(0, 0, 0) of " + size, judged(size, 0).judge(0, 0, 0), 100 + size);
        for (int from : new int[] {0, 1, 53, 54}) {
            due("judge(0, " + from + ", 0) of 60", judged(60, from).judge(0, from, 0), -5);
        }
        due("judge(0, 55, 0) of 60", judged(60, 55).judge(0, 55, 0), 105);
        due("judge(0, 59, 0) of 60", judged(60, 59).judge(0, 59, 0), 101);
        for (int i : new int[] {60, 61, MOST - 5, MOST}) due("judge(0, " + i + ", 0) of 60", judged(60, 0).judge(0, i, 0), 100);
        WhoMustSwear x = judged(3, 0);
        x.item(0, 2, 9);
        due("judge(0, 0, 0): wrong ahead of beyond", x.judge(0, 0, 0), 2);
        x.item(0, 2, 3);
        due("judge(0, 0, 0): beyond", x.judge(0, 0, 0), 103);
    }

    private static void promise24BelowTheRow() {
        for (int i : new int[] {-1, -2, -5, -6, -7, LEAST, LEAST + 5}) {
            due("judge(0, " + i + ", 0)", judged(60, 0).judge(0, i, 0), 100);
        }
    }

    private static void promise24NothingThere() {
        for (int i : new int[] {LEAST, -1, 0, 1, MOST}) due("judge(5, " + i + ", 0)", judged(6, 0).judge(5, i, 0), 100);
        WhoMustSwear x = judged(6, 0);
        x.tape(0, -1, 6);
        due("judge(0, 0, 0) by nothing any more", x.judge(0, 0, 0), 100);
    }

    /** By places in the suit: its second claim is the fourth of all. */
    private static void promise24Places() {
        WhoMustSwear x = furnished();
        x.tape(0, 0, 2);
        x.item(0, 0, 3);
        x.item(0, 1, 9);
        due("judge(0, 0, 1): the second is wrong", x.judge(0, 0, 1), 1);
        x.item(0, 1, 2);
        due("judge(0, 0, 1)", x.judge(0, 0, 1), -5);
    }

    // ---- promises 25, 26

    private static void promise25HowManyClaims() {
        for (int n = 0; n < 7; n++) {
            WhoMustSwear x = suits(1);
            for (int c = 0; c < n; c++) x.claim(0, 9, 0);
            due("image() of " + n, x.image(), n);
            due("image() again", x.image(), n);
            due("undo() of " + n, x.undo(), n);
            due("undo() again", x.undo(), n);
        }
        WhoMustSwear x = full();
        due("image() of 24", x.image(), 24);
        due("undo() of 24", x.undo(), 24);
        due("claim(4, 9, 0): full as before", x.claim(4, 9, 0), -4);
    }

    private static void promise26NoImage() {
        unchanged("undo() of a new one", WhoMustSwear::new, STATE, WhoMustSwear::undo);
        Maker some = () -> {
            WhoMustSwear x = suits(2);
            x.claim(1, 9, 1);
            x.known(3, 3);
            return x;
        };
        unchanged("undo() without an image", some, STATE, WhoMustSwear::undo);
        WhoMustSwear x = some.make();
        due("undo()", x.undo(), -3);
        due("undo()", x.undo(), -3);
        due("image()", x.image(), 1);
        due("undo()", x.undo(), 1);
    }

    /** The image of no claims is an image. */
    private static void promise26OfNone() {
        WhoMustSwear x = new WhoMustSwear();
        due("image()", x.image(), 0);
        written(x, "free a>0");
        x.suit(0, 1, 0);
        for (int c = 0; c < 6; c++) x.claim(0, 9, 0);
        x.known(0, 31);
        x.known(7, 31);
        due("undo()", x.undo(), 0);
        due("of(0, 0)", x.of(0, 0), -1);
        due("count(0)", x.count(0), 1);
        due("count(1)", x.count(1), 0);
        due("count(2)", x.count(2), 1);
        due("known(0, 0)", x.known(0, 0), 0);
        due("known(7, 0)", x.known(7, 0), 0);
        for (int c = 0; c < 6; c++) due("claim(0, 8, 0)", x.claim(0, 8, 0), c);
        due("claim(0, 8, 0)", x.claim(0, 8, 0), -4);
    }

    /** Claims that there were again are as they were, and not as what came in their stead. */
    private static void promise26ClaimsComeBack() {
        WhoMustSwear x = full();
        x.answer(23, 24, false);
        x.truth(23, 99);
        x.proof(0, 0, 3);
        x.image();
        x.answer(23, 1, true);
        x.truth(23, 1);
        x.proof(0, 0, 0);
        due("undo()", x.undo(), 24);
        due("of(23, 3)", x.of(23, 3), 24);
        due("of(23, 4)", x.of(23, 4), 0);
        due("of(23, 9)", x.of(23, 9), 99);
        due("of(0, 5)", x.of(0, 5), 3);
        for (int c = 0; c < 24; c++) due("of(" + c + ", 1)", x.of(c, 1), c + 1);
    }

    private static void promise25TheImageIsAlone() {
        unchanged("undo() behind image()", () -> {
            WhoMustSwear x = furnished();
            x.image();
            return x;
        }, 4, WhoMustSwear::undo);
        unchanged("image() behind image()", () -> {
            WhoMustSwear x = furnished();
            x.image();
            return x;
        }, 4, WhoMustSwear::image);
    }

    public static void main(String[] args) {
        promise21SuitsThatThereAre();
        promise21PartsAre0And1();
        promise21TheSameTwo();
        promise21NoIsFirst();
        promise21Fractions();
        promise21AtTheMost();
        promise22ClaimsAndLawsThatThereAre();
        promise22EachTwo();
        promise23ClaimsAndLawsThatThereAre();
        promise23SumsAre1To99();
        promise23AdmittedIsNoMore();
        promise24TapesAndSuitsThatThereAre();
        promise24NoneAheadOfCast();
        promise24OnlyBytes();
        promise24TheFirstThatIsWrong();
        promise24BeyondTheRow();
        promise24BelowTheRow();
        promise24NothingThere();
        promise24Places();
        promise25HowManyClaims();
        promise25TheImageIsAlone();
        promise26NoImage();
        promise26OfNone();
        promise26ClaimsComeBack();
        end("BoundsTwoTest");
    }
}
