/** Promises 18 to 20: the best answers, slips, the wise sum. */
public final class AnswersTest extends Checks {
    private static void best(WhoMustSwear x, int oaths, int... answers) {
        due("best(0, -1)", x.best(0, -1), oaths);
        for (int k = 0; k < answers.length; k++) due("best(0, " + k + ")", x.best(0, k), answers[k]);
        due("best(0, " + answers.length + ")", x.best(0, answers.length), -1);
        due("best(0, -2)", x.best(0, -2), -1);
    }

    /** Not known: bound to all; known: an oath of what stands open, which costs all if it is refused. */
    private static void promise18Each() {
        WhoMustSwear x = suited("bind u=1;oath p a>0", 10);
        best(x, 1, 0);
        x.truth(0, 7);
        best(x, 1, 2);
        x.truth(0, 5);
        best(x, 1, 2);
        x.truth(0, 3);
        best(x, 1, 2);
        x.truth(0, 10);
        best(x, 0, 1);
        x.truth(0, 99);
        best(x, 0, 1);
        best(suited("bind u=0", 10), 0, 4);
        best(suited("bind u=0;oath p u=1", 10), 1, 4);
    }

    /** By answers 1 to 3 the claim is known, whatever it was before. */
    private static void promise18Half() {
        WhoMustSwear x = suited("bind y=0|u=1|y=3;oath p a>0;lose 1 5", 11);
        x.answer(0, 0, false);
        x.truth(0, 3);
        best(x, 1, 3);
        WhoMustSwear y = suited("bind y=0|y=3|y=11", 11);
        y.truth(0, 3);
        best(y, 0, 3);
        WhoMustSwear z = suited("bind y=0|y=5", 11);
        z.answer(0, 5, false);
        z.truth(0, 6);
        best(z, 0, 2);
        due("of(0, 3): nothing is changed", z.of(0, 3), 5);
        due("of(0, 4): nothing is changed", z.of(0, 4), 0);
    }

    /** What is proven and the sort stay as they are in every row and sum. */
    private static void promise18Told() {
        WhoMustSwear x = suited("bind y<9&s=2&w=3&x=1&b=1&h=1", 3);
        x.claim(0, 10, 2);
        for (int what = 0; what < 4; what++) x.proof(1, what, what == 0 ? 3 : 1);
        x.truth(1, 9);
        best(x, 0, 0, 2);
        due("wise(1)", x.wise(1), 99);
        due("wise(0)", x.wise(0), 1);
    }

    private static void promise18FewestOaths() {
        best(suited("oath p u=0", 10), 0, 4);
        best(suited("oath p u=1", 10), 0, 0);
        best(suited("oath p a>0", 10, 20), 2, 0, 0);
        best(suited("oath h y=0;bind !y=0", 10), 1, 0);
        best(suited("oath p a=10&u=0;roll a=20&u=0", 10, 20), 0, 4, 0);
        best(suited("oath p a=10&u=0;roll a=20", 20, 10), 0, 0, 4);
        best(suited("oath t u=0;oath p u=1", 10), 0, 0);
    }

    private static void promise18Rows() {
        WhoMustSwear x = suited("bind y=0;lose 1 1", 9, 8, 1, 4);
        x.truth(0, 2);
        x.truth(1, 1);
        best(x, 0, 2, 2, 0, 3);
        due("best(0, 4)", x.best(0, 4), -1);
        best(suited("free a>0"), 0);
        due("best(1, 0)", x.best(1, 0), -1);
        due("best(-1, 0)", x.best(-1, 0), -1);
        x.claim(0, 1, 0);
        due("best(0, 0): 5 claims", x.best(0, 0), -9);
        due("best(0, -1): 5 claims", x.best(0, -1), -9);
        due("best(0, 9): -9 ahead of the place", x.best(0, 9), -9);
        due("best(1, 9)", x.best(1, 9), -1);
    }

    /** Lying by saying less costs more than the truth, if refusing the oath loses double. */
    private static void promise18Lose() {
        WhoMustSwear x = suited("oath p a>0;lose 2 1", 10, 6);
        x.truth(0, 4);
        x.truth(1, 6);
        best(x, 1, 2, 1);
        due("truly: nothing is changed", x.truly(0), 0);
        WhoMustSwear y = suited("oath p a>0;lose 1 3", 10);
        y.truth(0, 5);
        best(y, 1, 0);
        x.truth(0, 99);
        due("comes(0): as it is told", x.comes(0), 3);
        due("best(0, 0)", x.best(0, 0), 1);
        x.answer(0, 10, true);
        due("comes(0): as it is told now", x.comes(0), 0);
        WhoMustSwear z = suited("oath p a>0;over a>0;lose 3 1", 10);
        z.truth(0, 5);
        best(z, 1, 0);
    }

    private static void slips(String law, int want, int... sums) {
        due("slips(0) by " + law, suited(law, sums).slips(0), want);
    }

    private static void promise19Slips() {
        slips("oath p a>0", 0, 10);
        slips("oath p u=1", 2, 10);
        slips("free a>0", 3, 10);
        slips("free a>0", 9, 10, 20);
        slips("free a>0", 81, 10, 20, 30, 40);
        slips("free a>0", 16, 1, 1);
        slips("oath p u=0", 1, 10);
        slips("oath t u=0;bar q=9", 1, 10);
        slips("oath p u=0;bar a>0", 1, 10);
        slips("bind y=0", 1, 10);
        slips("free a>0", 1);
        slips("bind u=0;oath p u=1", 0, 10);
        WhoMustSwear x = suited("bind y=0;oath p a=5&u=0", 10, 5);
        x.truth(0, 5);
        due("slips(0)", x.slips(0), 0);
        x.truth(1, 5);
        due("slips(0): by 2, 3 of the first and 0, 1, 2, 4 of the second", x.slips(0), 8);
        due("best(0, 0)", x.best(0, 0), 2);
        due("best(0, 1)", x.best(0, 1), 0);
    }

    private static void promise19Wrong() {
        WhoMustSwear x = suited("free a>0", 1, 2, 3, 4);
        due("slips(1)", x.slips(1), -1);
        due("slips(-1)", x.slips(-1), -1);
        x.claim(0, 5, 0);
        due("slips(0): 5 claims", x.slips(0), -9);
    }

    private static void promise20Wise() {
        due("wise: refusing is never true", suited("oath p a>0", 10).wise(0), 1);
        WhoMustSwear x = suited("oath p a>0", 10);
        x.truth(0, 5);
        due("wise: all of what is claimed is lost", x.wise(0), 99);
        WhoMustSwear t = suited("oath t a>0", 10);
        t.truth(0, 42);
        due("wise: the plaintiff can swear so much", t.wise(0), 42);
        due("wise: bound up to 30", suited("bind a<31", 10).wise(0), 30);
        due("wise: bound from 97 on", suited("bind a>96", 10).wise(0), 99);
        due("wise: free, 3 admitted", admitted("free a>0", 3).wise(0), 3);
        due("of(0, 3): nothing is changed", admitted("free a>0", 3).of(0, 3), 3);
        due("wise(1)", x.wise(1), -1);
        due("wise(-1)", x.wise(-1), -1);
    }

    private static WhoMustSwear admitted(String law, int n) {
        WhoMustSwear x = suited(law, 10);
        x.answer(0, n, true);
        x.wise(0);
        return x;
    }

    /** The sum of 8 or 9 gives an oath onto which the other claim is rolled, which the defendant cannot swear. */
    private static void promise20InItsSuit() {
        WhoMustSwear x = suited("oath h a=8|a=9;roll a=50", 3, 50);
        due("wise(0): the heir swears", x.wise(0), 1);
        WhoMustSwear y = suited("oath p a=8|a=9;roll a=50", 3, 50);
        y.truth(1, 1);
        due("wise(0): the other claim is rolled and lost", y.wise(0), 8);
        y.truth(0, 1);
        due("wise(0): both are lost", y.wise(0), 9);
        due("comes(1): nothing is changed", y.comes(1), 5);
        due("of(0, 1): nothing is changed", y.of(0, 1), 3);
        due("wise(1)", y.wise(1), 9);
    }

    public static void main(String[] args) {
        promise18Each();
        promise18Half();
        promise18Told();
        promise18FewestOaths();
        promise18Rows();
        promise18Lose();
        promise19Slips();
        promise19Wrong();
        promise20Wise();
        promise20InItsSuit();
        end("AnswersTest");
    }
}
