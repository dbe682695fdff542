/** Promises 21 to 26: suits set off, two laws, judging, the image. */
public final class TwoTest extends Checks {
    private static void off(WhoMustSwear x, int first, int second, long above, long below) {
        due("off(" + first + ", " + second + ")", x.off(first, second, 0), x.off(first, second, 1), above, below);
    }

    private static void promise21Off() {
        WhoMustSwear x = suited("oath p a>0;lose 1 6", 5, 2);
        due("law()", law(x, "oath p a>0;lose 3 4"), 1);
        due("suit(1, 0, 1)", x.suit(1, 0, 1), 1);
        due("suit(0, 1, 1)", x.suit(0, 1, 1), 2);
        due("suit(2, 1, 1)", x.suit(2, 1, 1), 3);
        due("suit(1, 2, 1)", x.suit(1, 2, 1), 4);
        off(x, 0, 1, 0, 1);
        due("claim(1, 7, 0)", x.claim(1, 7, 0), 2);
        off(x, 0, 1, 0, 1);
        x.truth(0, 1);
        off(x, 0, 1, 5, 6);
        x.truth(2, 1);
        off(x, 0, 1, 10 - 63, 12);
        off(x, 1, 0, 53, 12);
        x.answer(1, 1, true);
        off(x, 0, 1, 12 + 10 - 63, 12);
        off(x, 2, 1, -21, 4);
        due("off(0, 2): the same way round", x.off(0, 2, 0), NO + 1);
        due("off(0, 0)", x.off(0, 0, 0), NO + 1);
        due("off(0, 3)", x.off(0, 3, 0), NO + 1);
        due("off(0, 4)", x.off(0, 4, 0), NO + 1);
        due("off(3, 1)", x.off(3, 1, 0), NO + 1);
        due("off(0, 1, 2)", x.off(0, 1, 2), NO);
        due("off(0, 1, -1)", x.off(0, 1, -1), NO);
        due("off(0, 0, 2): NO ahead of NO plus 1", x.off(0, 0, 2), NO);
        due("off(5, 1)", x.off(5, 1, 0), NO);
        due("off(0, -1)", x.off(0, -1, 0), NO);
    }

    private static void promise22Beside() {
        WhoMustSwear x = suited("free a=1;bind a=2;oath p a=3;roll a=4", 1, 2, 3, 4, 5, 6);
        due("law()", law(x, "free a=6;bind a=5;oath t a=4;roll a=3"), 1);
        due("law()", law(x, "roll q=1;oath p a=6"), 2);
        int[] ab = {15, 25, 35, 43, 52, 51};
        for (int k = 0; k < 6; k++) {
            due("beside(" + k + ", 0, 1)", x.beside(k, 0, 1), ab[k]);
            due("beside(" + k + ", 1, 0)", x.beside(k, 1, 0), ab[k] % 10 * 10 + ab[k] / 10);
            due("beside(" + k + ", 2, 2)", x.beside(k, 2, 2), k == 5 ? 33 : 55);
        }
        x.known(1, 1);
        due("beside(0, 2, 1): rolled in all of its suit", x.beside(0, 2, 1), 45);
        x.answer(5, 6, true);
        due("beside(0, 2, 1)", x.beside(0, 2, 1), 55);
        due("beside(5, 2, 1)", x.beside(5, 2, 1), 0);
        due("beside(0, 3, 0)", x.beside(0, 3, 0), -1);
        due("beside(0, 0, 3)", x.beside(0, 0, 3), -1);
        due("beside(0, -1, 0)", x.beside(0, -1, 0), -1);
        due("beside(6, 0, 0)", x.beside(6, 0, 0), -1);
        due("beside(-1, 0, 0)", x.beside(-1, 0, 0), -1);
    }

    private static void promise23Ways() {
        WhoMustSwear x = suited("free a>40", 10, 20);
        due("law()", law(x, "free a>42"), 1);
        due("law()", law(x, "free a>98"), 2);
        due("law()", law(x, "free o=0|o=4"), 3);
        due("law()", law(x, "oath p a=20;roll a=7"), 4);
        due("law()", law(x, "oath p a=20;oath p a=99"), 5);
        due("ways(0, 0, 1)", x.ways(0, 0, 1), 41);
        due("ways(0, 1, 0)", x.ways(0, 1, 0), 41);
        due("ways(0, 1, 2)", x.ways(0, 1, 2), 43);
        due("ways(0, 0, 0)", x.ways(0, 0, 0), -5);
        due("ways(1, 4, 2): the other of 10 is not changed", x.ways(1, 4, 2), 20);
        due("ways(0, 0, 3)", x.ways(0, 0, 3), 4);
        x.answer(0, 3, true);
        due("ways(0, 0, 3): 3 are admitted", x.ways(0, 0, 3), 7);
        due("ways(0, 4, 5): rolled with the other claim", x.ways(0, 4, 5), 7);
        x.answer(1, 20, true);
        due("ways(0, 4, 5): at 20 both are due", x.ways(0, 4, 5), 99);
        due("of(0, 1): nothing is changed", x.of(0, 1), 10);
        due("of(0, 3): nothing is changed", x.of(0, 3), 3);
        due("ways(0, 6, 0)", x.ways(0, 6, 0), -1);
        due("ways(0, 0, 6)", x.ways(0, 0, 6), -1);
        due("ways(0, 0, -1)", x.ways(0, 0, -1), -1);
        due("ways(2, 0, 0)", x.ways(2, 0, 0), -1);
        WhoMustSwear y = suited("free a<3&s=1", 10);
        due("law()", law(y, "bind a<2"), 1);
        y.claim(0, 10, 1);
        due("ways(0, 0, 1)", y.ways(0, 0, 1), 1);
        due("ways(1, 0, 1): of sort 1", y.ways(1, 0, 1), 1);
        due("ways(1, 0, 0)", y.ways(1, 0, 0), -5);
        due("law()", law(y, "free a=1"), 2);
        due("ways(1, 0, 2): of sort 1", y.ways(1, 0, 2), 2);
        due("ways(0, 0, 2)", y.ways(0, 0, 2), 1);
        due("ways(-1, 0, 0)", x.ways(-1, 0, 0), -1);
    }

    private static void row(WhoMustSwear x, int tape, int... items) {
        due("tape", x.tape(tape, 0, items.length), 1);
        for (int k = 0; k < items.length; k++) due("item", x.item(tape, k, items[k]), 1);
    }

    private static void promise24Judge() {
        WhoMustSwear x = suited("free a=1;bind a=2;oath p a=3;roll a=4", 1, 2, 3, 4, 5, 6);
        x.answer(5, 6, true);
        row(x, 0, 9, 1, 2, 3, 4, 5, 0);
        due("judge(0, 1, 0)", x.judge(0, 1, 0), -5);
        due("judge(0, 0, 0)", x.judge(0, 0, 0), 0);
        row(x, 0, 1, 2, 3, 4, 5);
        due("judge: the last is beyond", x.judge(0, 0, 0), 105);
        row(x, 0, 1, 2, 3, 3, 5);
        due("judge: wrong ahead of what is beyond", x.judge(0, 0, 0), 3);
        row(x, 0, 0, 0, 1, 2);
        due("judge: two were looked at", x.judge(0, 2, 0), 102);
        due("judge: none was looked at", x.judge(0, 4, 0), 100);
        due("judge at -1", x.judge(0, -1, 0), 100);
        due("judge at the least", x.judge(0, Integer.MIN_VALUE, 0), 100);
        due("judge at the most", x.judge(0, Integer.MAX_VALUE, 0), 100);
        due("judge by nothing", x.judge(1, 0, 0), 100);
        for (int sort = 1; sort < 5; sort++) {
            x.tape(2, sort, 6);
            due("judge by sort " + sort, x.judge(2, 0, 0), -12);
        }
        x.tape(3, 0, 0);
        due("judge by none", x.judge(3, 0, 0), 100);
        x.suit(3, 4, 0);
        due("judge of no claims", x.judge(0, 0, 1), -5);
        due("judge of no claims by nothing", x.judge(1, -1, 1), -5);
        due("judge of no claims by another sort", x.judge(2, 0, 1), -12);
        x.tape(0, -1, 6);
        due("judge by nothing any more", x.judge(0, 0, 0), 100);
        due("judge(6, 0, 0)", x.judge(6, 0, 0), -1);
        due("judge(-1, 0, 0)", x.judge(-1, 0, 0), -1);
        due("judge(0, 0, 2)", x.judge(0, 0, 2), -1);
        due("judge(2, 0, -1): NONE ahead of CAST", x.judge(2, 0, -1), -1);
    }

    private static void promise25Image() {
        WhoMustSwear x = suited("free a>0", 10, 20);
        due("image()", x.image(), 2);
        due("claim(0, 30, 1)", x.claim(0, 30, 1), 2);
        due("image()", x.image(), 3);
        x.answer(2, 5, false);
        due("undo(): the later image", x.undo(), 3);
        due("of(2, 3)", x.of(2, 3), 0);
        due("of(2, 4)", x.of(2, 4), 1);
        due("image() of none", new WhoMustSwear().image(), 0);
    }

    private static void promise26Undo() {
        WhoMustSwear x = suited("free a>0", 10, 20);
        due("undo() without an image", x.undo(), -3);
        x.answer(0, 4, false);
        x.proof(0, 0, 3);
        x.proof(0, 1, 1);
        x.proof(0, 2, 1);
        x.proof(0, 3, 1);
        x.truth(0, 44);
        x.known(5, 21);
        due("image()", x.image(), 2);
        for (int again = 0; again < 2; again++) {
            x.answer(0, 3, true);
            for (int what = 0; what < 4; what++) x.proof(0, what, 0);
            x.truth(0, 1);
            x.known(5, 1);
            x.known(6, 7);
            due("suit(2, 3, 0)", x.suit(2, 3, 0), 1 + again);
            due("claim(1, 3, 2)", x.claim(1, 3, 2), 2);
            due("law()", law(x, "bind a>0"), 1 + again);
            due("undo()", x.undo(), 2);
            int[] told = {0, 10, 0, 4, 0, 3, 1, 1, 1, 44};
            for (int what = 0; what < 10; what++) due("of(0, " + what + ")", x.of(0, what), told[what]);
            due("known(5)", x.known(5, 21), 21);
            due("known(6)", x.known(6, 0), 0);
            due("count(0): suits stay", x.count(0), 2 + again);
            due("count(1)", x.count(1), 2);
            due("count(2): laws stay", x.count(2), 2 + again);
            due("of(2, 0)", x.of(2, 0), -1);
        }
        due("claim(0, 9, 1)", x.claim(0, 9, 1), 2);
        due("of(2, 1)", x.of(2, 1), 9);
        due("of(2, 9)", x.of(2, 9), 0);
    }

    private static void promise26Anew() {
        WhoMustSwear x = suited("free a>0");
        x.image();
        for (int again = 0; again < 2; again++) {
            due("claim(0, 5, 1)", x.claim(0, 5, 1), 0);
            int[] told = {0, 5, 1, 0, 1, 0, 0, 0, 0, 0};
            for (int what = 0; what < 10; what++) due("of(0, " + what + ")", x.of(0, what), told[what]);
            x.answer(0, 4, false);
            for (int what = 0; what < 4; what++) x.proof(0, what, 1);
            x.truth(0, 44);
            due("undo()", x.undo(), 0);
        }
    }

    private static void promise26Stays() {
        WhoMustSwear x = suited("free a>0", 10);
        feed(x, "free");
        x.tape(0, 2, 3);
        x.act(0, 1, 2);
        x.image();
        feed(x, " a");
        x.item(0, 1, 77);
        x.act(0, 2, 2);
        due("undo()", x.undo(), 1);
        due("count(3): the text stays", x.count(3), 6);
        due("read(0, 1): tapes stay", x.read(0, 1), 77);
        due("count(4): the trace stays", x.count(4), 3);
        for (int k = 1; k < 6; k++) x.claim(0, 1, 0);
        due("claim(0, 1, 0): 6 of it", x.claim(0, 1, 0), -4);
        due("undo()", x.undo(), 1);
        due("claim(0, 1, 0): the places are free again", x.claim(0, 1, 0), 1);
    }

    public static void main(String[] args) {
        promise21Off();
        promise22Beside();
        promise23Ways();
        promise24Judge();
        promise25Image();
        promise26Undo();
        promise26Anew();
        promise26Stays();
        end("TwoTest");
    }
}
