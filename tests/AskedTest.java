/** What is asked changes nothing: each question on an object that holds something of everything, and on a full one. */
public final class AskedTest extends Twins {
    private static Maker on;

    private static void asked(String call, Call c) {
        long first = c.on(on.make());
        unchanged(call, on, first, c);
        unchanged(call + " twice", on, first, x -> {
            c.on(x);
            return c.on(x);
        });
    }

    private static void ofClaims(int claim) {
        for (int what = 0; what < 10; what += 3) {
            int w = what;
            asked("of(" + claim + ", " + w + ")", x -> x.of(claim, w));
        }
        asked("comes(" + claim + ")", x -> x.comes(claim));
        asked("wise(" + claim + ")", x -> x.wise(claim));
        asked("beside(" + claim + ", 0, 1)", x -> x.beside(claim, 0, 1));
        asked("beside(" + claim + ", 1, 0)", x -> x.beside(claim, 1, 0));
        asked("ways(" + claim + ", 0, 1)", x -> x.ways(claim, 0, 1));
        asked("ways(" + claim + ", 1, 1)", x -> x.ways(claim, 1, 1));
        asked("paid(" + claim + ", true, 0)", x -> x.paid(claim, true, 0));
        asked("paid(" + claim + ", false, 1)", x -> x.paid(claim, false, 1));
        for (int what = 0; what < 3; what++) {
            int w = what;
            asked("due(" + claim + ", " + w + ")", x -> x.due(claim, w));
        }
    }

    private static void ofSuits(int suit) {
        asked("all(" + suit + ", 1, 0)", x -> x.all(suit, 1, 0));
        asked("all(" + suit + ", 0, 1)", x -> x.all(suit, 0, 1));
        for (int what = 0; what < 3; what++) {
            int w = what;
            asked("ends(" + suit + ", " + w + ", 0)", x -> x.ends(suit, w, 0));
        }
        asked("truly(" + suit + ")", x -> x.truly(suit));
        asked("rolled(" + suit + ", 0)", x -> x.rolled(suit, 0));
        asked("rolled(" + suit + ", 1)", x -> x.rolled(suit, 1));
        for (int place = -1; place < 2; place++) {
            int i = place;
            asked("best(" + suit + ", " + i + ")", x -> x.best(suit, i));
        }
        asked("slips(" + suit + ")", x -> x.slips(suit));
        asked("off(" + suit + ", 1, 0)", x -> x.off(suit, 1, 0));
        asked("off(1, " + suit + ", 1)", x -> x.off(1, suit, 1));
        asked("judge(0, 0, " + suit + ")", x -> x.judge(0, 0, suit));
        asked("judge(2, 1, " + suit + ")", x -> x.judge(2, 1, suit));
    }

    private static void ofTheRest() {
        for (int n = 0; n < 5; n++) {
            int k = n;
            asked("count(" + k + ")", x -> x.count(k));
            asked("trace(" + k + ")", x -> x.trace(k));
            asked("taken(" + k + ", 3)", x -> x.taken(k, 3));
            asked("read(" + k + ", 0)", x -> x.read(k, 0));
        }
        asked("feed(-1, 0): no byte comes", x -> x.feed(-1, 0));
        asked("shift(0, 1, 0, 1, 0): no item comes", x -> x.shift(0, 1, 0, 1, 0));
        asked("shift(0, 0, 0, 0, 3): each comes to itself", x -> x.shift(0, 0, 0, 0, 3));
    }

    /** What one question leaves behind is not seen by the next, whichever they are. */
    private static void oneBehindAnother() {
        Call[] calls = {x -> x.comes(1), x -> x.due(0, 1), x -> x.paid(2, false, 0), x -> x.all(0, 3, 0), x -> x.ends(1, 1, 0),
            x -> x.ends(0, 2, 0), x -> x.truly(0), x -> x.rolled(0, 0), x -> x.best(0, 0), x -> x.best(1, -1), x -> x.slips(0),
            x -> x.wise(0), x -> x.wise(3), x -> x.off(0, 1, 0), x -> x.beside(2, 0, 1), x -> x.ways(0, 1, 0), x -> x.judge(0, 0, 0)};
        for (int a = 0; a < calls.length; a++) {
            WhoMustSwear x = furnished();
            for (int b = 0; b < calls.length; b++) {
                calls[a].on(x);
                due("question " + b + " behind " + a, calls[b].on(x), calls[b].on(furnished()));
            }
        }
    }

    /** Nothing of a suit of many claims is counted in one of few. */
    private static void fewBehindMany() {
        WhoMustSwear x = new WhoMustSwear();
        written(x, "oath p a>0");
        written(x, "free a>0");
        for (int s = 0; s < 3; s++) x.suit(0, 1, s == 0 ? 0 : 1);
        for (int c = 0; c < 4; c++) x.claim(0, 9, 0);
        x.claim(1, 9, 0);
        Call[] many = {y -> y.truly(0), y -> y.best(0, -1), y -> y.slips(0), y -> y.ends(0, 2, 0), y -> y.rolled(0, 0), y -> y.wise(0)};
        for (Call first : many) {
            Call[] few = {y -> y.truly(2), y -> y.best(2, -1), y -> y.slips(2), y -> y.ends(1, 2, 0), y -> y.best(1, -1), y -> y.best(1, 0),
                y -> y.slips(1), y -> y.all(1, 1, 0), y -> y.truly(1), y -> y.rolled(1, 1), y -> y.judge(0, 0, 2)};
            int[] want = {0, 0, 1, 0, 0, 0, 3, 0, 0, 0, -5};
            for (int k = 0; k < few.length; k++) {
                first.on(x);
                due("question " + k + " of few claims", few[k].on(x), want[k]);
            }
        }
    }

    public static void main(String[] args) {
        on = Twins::furnished;
        for (int claim = 0; claim < 4; claim++) ofClaims(claim);
        for (int suit = 0; suit < 2; suit++) ofSuits(suit);
        ofTheRest();
        on = Twins::full;
        ofClaims(0);
        ofClaims(23);
        ofSuits(4);
        oneBehindAnother();
        fewBehindMany();
        end("AskedTest");
    }
}
