/** Promises 9 to 12: the text, laws and their faults, what a claim comes to, and its oath. */
public final class LawsTest extends Checks {
    private static void promise9Feed() {
        WhoMustSwear x = new WhoMustSwear();
        due("feed(.., 0)", x.feed(65, 0), 0);
        due("feed(.., 5)", x.feed(65, 5), -2);
        due("feed(.., -1)", x.feed(65, -1), -2);
        due("feed(free, 4)", x.feed('f' << 24 | 'r' << 16 | 'e' << 8 | 'e', 4), 4);
        due("feed( a>, 3): the 4th byte does not count", x.feed('z' << 24 | ' ' << 16 | 'a' << 8 | '>', 3), 7);
        due("feed(12, 2)", x.feed('z' << 16 | '1' << 8 | '2', 2), 9);
        due("law()", x.law(), 0);
        due("count(3)", x.count(3), 0);
        for (int k = 1; k <= 24; k++) due("feed " + k, x.feed(-1, 4), 4 * k);
        due("feed(0, 3)", x.feed(0, 3), 99);
        due("feed(0, 2)", x.feed(0, 2), -4);
        due("feed(0, 1)", x.feed(0, 1), 100);
        due("feed(0, 1): full", x.feed(0, 1), -4);
        due("feed(0, 0)", x.feed(0, 0), 100);
        due("feed(0, 5): BAD ahead of FULL", x.feed(0, 5), -2);
        due("count(3)", x.count(3), 100);
    }

    private static void fault(String text, int place) {
        WhoMustSwear x = new WhoMustSwear();
        due("law() of " + text, law(x, text), -10 - place);
        due("count(2) after " + text, x.count(2), 0);
        due("count(3) after " + text, x.count(3), 0);
    }

    private static void reads(String text) {
        due("law() of " + text, law(new WhoMustSwear(), text), 0);
    }

    private static void promise10Words() {
        fault("", 0);
        fault("x", 0);
        fault("f", 1);
        fault("bx", 1);
        fault("bi", 2);
        fault("bai a=1", 2);
        fault("bot", 3);
        fault("free", 4);
        fault("free ", 5);
        fault("freea=1", 4);
        fault("free  a=1", 5);
        fault(" free a=1", 0);
        fault("Free a=1", 0);
        fault("ober a=1", 1);
        fault("lose", 4);
        fault("leas 3", 4);
        fault("least3", 5);
        fault("rol a=1", 3);
        fault("overr a=1", 4);
        fault("oath", 4);
        fault("oath ", 5);
        fault("oath a=1", 5);
        fault("oath x a=1", 5);
        fault("oath p", 6);
        fault("oath pa=1", 6);
        fault("oath p  a=1", 7);
        for (char k : "poghct".toCharArray()) reads("oath " + k + " a=1");
        for (String w : new String[] {"free", "bind", "bar", "over", "roll"}) reads(w + " a=1");
    }

    private static void promise10Numbers() {
        reads("lose 0 1");
        reads("lose 99 99");
        reads("both 00 01");
        reads("both 7 10");
        reads("least 0");
        reads("least 00");
        reads("least 99");
        fault("least 100", 8);
        fault("least x", 6);
        fault("least -1", 6);
        fault("lose 1", 6);
        fault("lose 1 ", 7);
        fault("lose 1;", 6);
        fault("lose 100 1", 7);
        fault("lose 1 100", 9);
        fault("lose 1 0", 8);
        fault("lose 1 0;free a=1", 8);
        fault("lose 1 00", 8);
        fault("lose 1 00;free a=1", 8);
        fault("lose 1 0x", 8);
        fault("lose 1 051", 9);
        fault("both 12 0", 9);
        fault("both 12 00", 9);
        fault("both 1  2", 7);
        fault("both 1 2 ", 8);
    }

    private static void promise10Tests() {
        for (char k : "ayowsuxbhq".toCharArray()) {
            reads("free " + k + "<1");
            reads("bind " + k + "=12");
            reads("bar " + k + ">0");
        }
        fault("free c=1", 5);
        fault("free a", 6);
        fault("free a!", 6);
        fault("free a=", 7);
        fault("free a==1", 7);
        fault("free a=x", 7);
        fault("free a=123", 9);
        fault("free a= 1", 7);
        fault("free a=1 ", 8);
        fault("free a=1&", 9);
        fault("free a=1|", 9);
        fault("free a=1&&a=1", 9);
        fault("free a=1|;", 9);
        fault("free a=1)", 8);
        fault("free (a=1", 9);
        fault("free (a=1;", 9);
        fault("free ()", 6);
        fault("free !", 6);
        fault("free !&", 6);
        fault("free a=1!a=1", 8);
        reads("free !a=1|(y=2&!(o>3))&w=1");
        fault("free a=1;", 9);
        fault("free a=1;;", 9);
        fault("free a=1; bar a=1", 9);
        fault("\u00ff", 0);
        fault("free a=\u00b1", 7);
    }

    private static void promise10Depth() {
        reads("bar ((((q=1))))");
        fault("bar (((((q=1)))))", 8);
        reads("bar !!!!q=1");
        fault("bar !!!!!q=1", 8);
        fault("bar !!!!(q=1)", 8);
        reads("bar (!(!q=1))");
        fault("bar (!(!(q=1)))", 8);
        reads("bar ((((q=1))))&((((q=1))))|!!!!q=1");
        fault("bar ((((q=1))))&(((((q=1)))))", 20);
        fault("bar ((((!q=1))))", 8);
        reads("bar (((!q=1&!q=2|(q=3))))");
    }

    private static void promise10Clauses() {
        StringBuilder b = new StringBuilder("least 1");
        for (int k = 1; k < 8; k++) b.append(";least 2");
        reads(b.toString());
        fault(b + ";", b.length());
        fault(b + ";least 3", b.length());
        StringBuilder full = new StringBuilder("free a>0");
        while (full.length() < 100) full.append("|a>0");
        due("a text of 100 bytes", full.length(), 100);
        reads(full.toString());
        full.setCharAt(99, '|');
        fault(full.toString(), 99);
        fault(full.substring(0, 99), 99);
    }

    /** Nothing of a faulty text stays for the law that is read next. */
    private static void promise10Anew() {
        WhoMustSwear x = new WhoMustSwear();
        due("law()", law(x, "free a>0;lose 3 4;both 5 6;least 9;bar a>0;"), -53);
        due("law()", law(x, "oath p a=1;bar a=2"), 0);
        x.suit(0, 1, 0);
        x.claim(0, 1, 0);
        x.claim(0, 2, 0);
        due("comes(0)", x.comes(0), 3);
        due("due(0, 1)", x.due(0, 1), 0);
        due("due(0, 2)", x.due(0, 2), 0);
        due("paid(0, false, 0)", x.paid(0, false, 0), 1);
        due("law()", law(x, "both 5 6;least x"), -25);
        due("law()", law(x, "oath p a=1;bar a=1"), 1);
        x.suit(0, 1, 1);
        x.claim(1, 1, 0);
        due("due(2, 2)", x.due(2, 2), 2);
        due("paid(2, false, 0)", x.paid(2, false, 0), 0);
        due("paid(2, false, 1)", x.paid(2, false, 1), 1);
    }

    private static void promise10Full() {
        WhoMustSwear x = new WhoMustSwear();
        for (int k = 0; k < 6; k++) {
            due("law() of x", law(x, "x"), -10);
            due("law() " + k, law(x, "least " + k), k);
        }
        due("law(): full", law(x, "least 7"), -4);
        due("count(3): the text stays", x.count(3), 7);
        due("law(): full", x.law(), -4);
        due("count(2)", x.count(2), 6);
    }

    private static int comes(String law, int sum, int admitted) {
        WhoMustSwear x = suited(law, sum);
        x.answer(0, admitted, true);
        return x.comes(0);
    }

    private static void promise11Comes() {
        due("nothing open", comes("bind a>0;free a>0", 5, 5), 0);
        due("free ahead of bind", comes("bind a>0;free a>0", 5, 4), 1);
        due("bind ahead of oath", comes("oath p a>0;bind a>0", 5, 0), 2);
        due("oath ahead of roll", comes("roll a>0;oath p a>0", 5, 0), 3);
        due("roll without an oath", comes("roll a>0", 5, 0), 5);
        due("nothing holds", comes("free a>5;bind a>5;oath p a>5", 5, 0), 5);
        due("least is met", comes("oath p a>0;least 5", 5, 0), 3);
        due("least is missed", comes("oath p a>0;least 5", 5, 1), 5);
        due("the last least counts", comes("least 9;oath p a>0;least 2", 5, 1), 3);
        due("the last least counts", comes("least 2;oath p a>0;least 9", 5, 1), 5);
        WhoMustSwear x = suited("free a>0", 1);
        due("comes(1)", x.comes(1), -1);
        due("comes(-1)", x.comes(-1), -1);
    }

    private static void holds(String e, boolean so) {
        WhoMustSwear x = suited("free " + e, 30);
        x.answer(0, 12, false);
        x.proof(0, 0, 2);
        x.proof(0, 1, 1);
        x.proof(0, 3, 1);
        x.known(1, 6);
        x.known(0, 9);
        due(e, x.comes(0), so ? 1 : 5);
    }

    private static void promise11Tests() {
        holds("a=30", true);
        holds("a<30", false);
        holds("a>29", true);
        holds("a>30", false);
        holds("y=12", true);
        holds("o=18", true);
        holds("o=12", false);
        holds("w=2", true);
        holds("w<2", false);
        holds("s=0", true);
        holds("u=1", true);
        holds("x=1", true);
        holds("b=1", false);
        holds("b=0", true);
        holds("h=1", true);
        holds("q=6", true);
        holds("q=9", false);
        holds("!a=30", false);
        holds("!!a=30", true);
        holds("a=30|a=1&a=2", true);
        holds("a=1&a=2|a=30", true);
        holds("(a=30|a=1)&a=2", false);
        holds("a=2&(a=1|a=30)", false);
        holds("a=30&!(a=2&a=30)", true);
        holds("!a=30|a=30", true);
        holds("!(a=30|a=30)", false);
        holds("!a=30&a=1|a=1", false);
        holds("a=1|a=2|a=3|a=30", true);
        holds("a=30&y=12&o=18&w=2&u=0", false);
        holds("a=03", false);
        holds("w=02", true);
        holds("a<0", false);
        holds("!a<0", true);
        holds("a=30&!a<0", true);
        holds("a<31", true);
        holds("a<99", true);
        holds("a>0", true);
        holds("y<13", true);
        holds("y<12", false);
        holds("o<19", true);
        holds("o>18", false);
        holds("w<3", true);
        holds("w>1", true);
        holds("s<1", true);
        holds("s>0", false);
        holds("u>0", true);
        holds("u<1", false);
        holds("x<1", false);
        holds("b<1", true);
        holds("h<1", false);
        holds("q<7", true);
        holds("q<6", false);
        holds("q<0", false);
        holds("q>5", true);
        holds("q>6", false);
    }

    private static void promise11Who() {
        WhoMustSwear x = suited("bind q=1;roll q=1;oath t q=2", 5);
        due("q of oath t: the plaintiff", x.comes(0), 5);
        x.known(1, 2);
        due("q of oath t: not the defendant", x.comes(0), 5);
        x.known(0, 2);
        due("q of oath t: the plaintiff", x.comes(0), 3);
        x.known(0, 1);
        due("q of bind: not the plaintiff", x.comes(0), 5);
        x.known(1, 1);
        due("q of bind: the defendant", x.comes(0), 2);
        WhoMustSwear y = suited("oath h q=2", 5);
        y.known(0, 2);
        due("q of oath h: not the plaintiff", y.comes(0), 5);
        y.known(1, 2);
        due("q of oath h: the defendant", y.comes(0), 3);
    }

    private static void rolledOnto(String oaths, boolean so) {
        WhoMustSwear x = suited(oaths + ";roll a=5", 5, 9, 5);
        due("comes(0) by " + oaths, x.comes(0), so ? 4 : 5);
        due("comes(1) by " + oaths, x.comes(1), 3);
        due("comes(2) by " + oaths, x.comes(2), so ? 4 : 5);
        for (int what = 0; what < 3; what++) {
            due("due(0, " + what + ") by " + oaths, x.due(0, what), so ? x.due(1, what) : -5);
        }
    }

    private static void promise11Rolled() {
        rolledOnto("oath p a=9", true);
        rolledOnto("oath h a=9", true);
        rolledOnto("oath t a=9", false);
        rolledOnto("oath t a=9;bar a=9&q=0;oath p a>50", false);
        WhoMustSwear x = suited("oath p a=9;roll a=5;bar q=1", 5, 9);
        due("comes(0)", x.comes(0), 4);
        x.known(1, 1);
        due("comes(0): the plaintiff swears", x.comes(0), 5);
        x.known(0, 1);
        due("comes(0): nobody swears", x.comes(0), 5);
        WhoMustSwear y = suited("oath t a=9;roll a=5;bar q=1", 5, 9);
        y.known(0, 1);
        due("due(1, 2): turned, but the defendant swears", y.due(1, 2), 0);
        due("comes(0): not on a turned one", y.comes(0), 5);
    }

    private static void promise12Due() {
        String kinds = "poghct";
        for (int k = 0; k < 6; k++) {
            WhoMustSwear x = suited("least 1;oath " + kinds.charAt(k) + " a>4;oath p a>0", 5, 4);
            due("kind", x.due(0, 0), 1 + k);
            due("clause", x.due(0, 1), 1);
            due("who", x.due(0, 2), k == 5 ? 1 : 0);
            due("kind of the other", x.due(1, 0), 1);
            due("clause of the other", x.due(1, 1), 2);
        }
        WhoMustSwear x = suited("oath p a>1;free a=1;bar q=1", 5, 1);
        due("due(1, 0): free", x.due(1, 0), -5);
        due("due(1, 1): free", x.due(1, 1), -5);
        due("due(1, 2): free", x.due(1, 2), -5);
        due("due(0, 3)", x.due(0, 3), -1);
        due("due(0, -1)", x.due(0, -1), -1);
        due("due(2, 0)", x.due(2, 0), -1);
        due("due(-1, 0)", x.due(-1, 0), -1);
        x.known(0, 1);
        due("who: the plaintiff is barred, the defendant swears", x.due(0, 2), 0);
        x.known(1, 1);
        due("who: both are barred", x.due(0, 2), 2);
        x.known(0, 0);
        due("who: the defendant is barred", x.due(0, 2), 1);
    }

    private static void promise12Turned() {
        WhoMustSwear x = suited("oath t a>0;bar q=1", 5);
        due("who", x.due(0, 2), 1);
        x.known(1, 1);
        due("who: the defendant is barred", x.due(0, 2), 1);
        x.known(0, 1);
        due("who: both are barred", x.due(0, 2), 2);
        x.known(1, 0);
        due("who: the plaintiff is barred", x.due(0, 2), 0);
    }

    /** The bar is asked of the claim that is rolled, not of the one whose oath it is rolled onto. */
    private static void promise12Rolled() {
        WhoMustSwear x = suited("least 1;oath g a=9;oath p a=8;roll a<8;bar a=5&q=0", 5, 8, 9, 6);
        due("due(0, 0)", x.due(0, 0), 1);
        due("due(0, 1)", x.due(0, 1), 2);
        due("due(0, 2): barred in this claim", x.due(0, 2), 2);
        due("due(3, 2)", x.due(3, 2), 0);
        x.known(0, 3);
        due("due(0, 2): the plaintiff is not barred", x.due(0, 2), 1);
        x.answer(1, 8, true);
        due("due(0, 0): now on the guard's", x.due(0, 0), 3);
        due("due(3, 1): now on the guard's", x.due(3, 1), 1);
    }

    private static void promise12Clause() {
        due("clause behind lose", suited("lose 1 2;both 1 2;oath p a>0", 5).due(0, 1), 2);
        due("clause behind free", suited("free a=1;bar q=7;oath p a>0", 5).due(0, 1), 2);
        WhoMustSwear x = suited("oath p a=9;oath t a=5;least 6;roll a=5", 5, 9);
        due("due(0, 0): its own turned oath is below least", x.due(0, 0), 1);
        due("due(0, 1): it is rolled onto the other", x.due(0, 1), 0);
        due("due(0, 2): so the defendant swears", x.due(0, 2), 0);
    }

    public static void main(String[] args) {
        promise9Feed();
        promise10Words();
        promise10Numbers();
        promise10Tests();
        promise10Depth();
        promise10Clauses();
        promise10Anew();
        promise10Full();
        promise11Comes();
        promise11Tests();
        promise11Who();
        promise11Rolled();
        promise12Due();
        promise12Turned();
        promise12Rolled();
        promise12Clause();
        end("LawsTest");
    }
}
