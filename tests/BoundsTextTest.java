/** The bounds of promises 9 and 10: THE TEXT, how many laws and clauses, figures, brackets, and the place of each FAULT. */
public final class BoundsTextTest extends Twins {
    private static void fault(String text, int place) {
        WhoMustSwear x = new WhoMustSwear();
        due("law() of " + text, written(x, text), -10 - place);
        due("count(2) after " + text, x.count(2), 0);
        due("count(3) after " + text, x.count(3), 0);
    }

    private static void reads(String text) {
        WhoMustSwear x = new WhoMustSwear();
        due("law() of " + text, written(x, text), 0);
        due("count(2) after " + text, x.count(2), 1);
        due("count(3) after " + text, x.count(3), 0);
    }

    private static String times(String part, int n) {
        return part.repeat(n);
    }

    // ---- promise 9

    private static void promise9FourBytesAtMost() {
        bounds("feed('a', n)", Twins::furnished, BAD, 0, 6, 4, 10, (x, n) -> x.feed('a', n));
        bounds("feed('a', n) of a new one", WhoMustSwear::new, BAD, 0, 0, 4, 4, (x, n) -> x.feed('a', n));
        for (int n = 0; n < 5; n++) due("feed('a', " + n + ")", new WhoMustSwear().feed('a', n), n);
    }

    private static WhoMustSwear texted(int bytes) {
        WhoMustSwear x = new WhoMustSwear();
        write(x, times("f", bytes));
        return x;
    }

    private static void promise9HundredBytesAtMost() {
        for (int has = 95; has <= 100; has++) {
            int there = has;
            for (int n = 0; n < 5; n++) {
                int more = n;
                String call = "feed('f', " + n + ") behind " + has;
                if (has + n > 100) {
                    unchanged(call, () -> texted(there), FULL, x -> x.feed('f', more));
                } else {
                    WhoMustSwear x = texted(has);
                    due(call, x.feed('f', n), has + n);
                    due("count(3) after " + call, x.count(3), has + n);
                }
            }
        }
    }

    /** A text that is refused in part comes not even in part. */
    private static void promise9NothingOfWhatIsRefused() {
        WhoMustSwear x = new WhoMustSwear();
        write(x, "free a>0" + times("|a>0", 22) + "|a>");
        due("count(3)", x.count(3), 99);
        due("feed(\"00\", 2)", x.feed('0' << 8 | '0', 2), -4);
        due("feed(\"0\", 1)", x.feed('0', 1), 100);
        due("law()", x.law(), 0);
    }

    private static void promise9BadAheadOfFull() {
        for (int n : new int[] {-1, 5, LEAST, MOST}) {
            unchanged("feed('f', " + n + ") behind 100", () -> texted(100), BAD, x -> x.feed('f', n));
        }
    }

    /** The bytes above the n lowest are nothing to it; a byte is 0 to 255. */
    private static void promise9TheLowestBytes() {
        int[] numbers = {'f', 'b' << 8 | 'f', 'b' << 16 | 'f' << 8 | 'r', 'f' << 24 | 'r' << 16 | 'e' << 8 | 'e'};
        String[] behind = {"ree a>0", "ree a>0", "ee a>0", " a>0"};
        int[] bytes = {1, 1, 2, 4};
        for (int k = 0; k < 4; k++) {
            WhoMustSwear x = new WhoMustSwear();
            due("feed(" + numbers[k] + ", " + bytes[k] + ")", x.feed(numbers[k], bytes[k]), bytes[k]);
            due("law()", written(x, behind[k]), 0);
        }
        WhoMustSwear x = new WhoMustSwear();
        due("feed(0xFFFFFF66, 1)", x.feed(0xFFFFFF66, 1), 1);
        due("law(): the first byte is an f", x.law(), -11);
        due("feed(-1, 1)", x.feed(-1, 1), 1);
        due("law(): the first byte is 255", x.law(), -10);
        due("feed(0, 1)", x.feed(0, 1), 1);
        due("law(): the first byte is 0", x.law(), -10);
        due("feed('b', 2): a 0 ahead of it", x.feed('b', 2), 2);
        due("law(): the first byte is 0", x.law(), -10);
        due("feed(\"bi\", 2): the highest first", x.feed('b' << 8 | 'i', 2), 2);
        due("law(): it begins so", x.law(), -12);
        due("feed(\"ib\", 2)", x.feed('i' << 8 | 'b', 2), 2);
        due("law(): none begins so", x.law(), -10);
        due("feed(0x80000000, 4)", x.feed(LEAST, 4), 4);
        due("law(): the first byte is 128", x.law(), -10);
    }

    private static void promise9NoByteIsFed() {
        WhoMustSwear x = new WhoMustSwear();
        write(x, "free a>0");
        due("feed(-1, 0)", x.feed(-1, 0), 8);
        due("count(3)", x.count(3), 8);
        due("law()", x.law(), 0);
        due("feed(-1, 0)", x.feed(-1, 0), 0);
        due("law()", x.law(), -10);
    }

    // ---- promise 10: laws

    private static WhoMustSwear laws(int n, String text) {
        WhoMustSwear x = new WhoMustSwear();
        for (int k = 0; k < n; k++) written(x, "least " + k);
        write(x, text);
        return x;
    }

    private static void promise10SixLaws() {
        for (int n = 0; n < 6; n++) {
            WhoMustSwear x = laws(n, "free a>0");
            due("law() with " + n, x.law(), n);
            due("count(2)", x.count(2), n + 1);
            due("count(3)", x.count(3), 0);
        }
        unchanged("law() with 6", () -> laws(6, "free a>0"), FULL, WhoMustSwear::law);
        unchanged("law() with 6 of a text of 100 bytes", Twins::full, FULL, WhoMustSwear::law);
    }

    private static void promise10FullAheadOfTheFault() {
        unchanged("law() with 6 of a fault", () -> laws(6, "x"), FULL, WhoMustSwear::law);
        unchanged("law() with 6 of no text", () -> laws(6, ""), FULL, WhoMustSwear::law);
    }

    private static void promise10TheTextStaysIfFull() {
        WhoMustSwear x = laws(6, "free a>0");
        due("law()", x.law(), -4);
        due("feed(\";\", 1)", x.feed(';', 1), 9);
        due("law()", x.law(), -4);
        due("count(3)", x.count(3), 9);
    }

    /** Only THE TEXT is another after a fault: it is empty. */
    private static void promise10AFaultChangesNoMore() {
        WhoMustSwear x = furnished();
        WhoMustSwear twin = furnished();
        due("law() of \"free a\"", x.law(), -16);
        due("count(3)", x.count(3), 0);
        due("count(2)", x.count(2), 2);
        due("law() of nothing", x.law(), -10);
        for (int c = 0; c < 4; c++) {
            due("comes(" + c + ")", x.comes(c), twin.comes(c));
            due("paid(" + c + ", false, 0)", x.paid(c, false, 0), twin.paid(c, false, 0));
            due("beside(" + c + ", 0, 1)", x.beside(c, 0, 1), twin.beside(c, 0, 1));
        }
        due("law() that is next", written(x, "free a>0"), 2);
        due("comes(0) by an older law", x.comes(0), twin.comes(0));
    }

    /** However much of faulty texts was read, the whole room is there for the next. */
    private static void promise10ManyFaults() {
        String most = "oath p a=1" + times("|a=1", 21) + "|a=2";
        WhoMustSwear x = new WhoMustSwear();
        for (int k = 0; k < 8; k++) due("law() of a fault", written(x, most + "|a"), -10 - most.length() - 2);
        due("law()", written(x, most), 0);
        x.suit(0, 1, 0);
        x.claim(0, 2, 0);
        x.claim(0, 3, 0);
        due("comes(0): the last test is read", x.comes(0), 3);
        due("comes(1)", x.comes(1), 5);
        for (int k = 0; k < 8; k++) due("law() of a fault", written(x, times("least 1;", 8)), -10 - 63);
        due("law() of eight clauses", written(x, times("least 9;", 7) + "oath p a>0"), 1);
        x.suit(0, 1, 1);
        x.claim(1, 9, 0);
        due("comes(2): the last clause is read", x.comes(2), 3);
    }

    // ---- promise 10: clauses

    private static final String[] EACH = {"free a>0", "bind a>0", "oath p a>0", "bar a>0", "lose 1 2", "both 1 2", "over a>0", "roll a>0", "least 1"};

    private static void promise10OneToEightClauses() {
        for (int n = 1; n < 9; n++) reads("least 1" + times(";least 1", n - 1));
        for (String last : EACH) {
            reads(times("least 1;", 7) + last);
            fault(times("least 1;", 7) + last + ";", 56 + last.length());
            fault(times("least 1;", 7) + last + ";least 1", 56 + last.length());
        }
        fault("", 0);
        fault(";", 0);
        fault(";least 1", 0);
        fault("least 1;", 8);
        fault("least 1;;least 1", 8);
    }

    private static void promise10EachClauseAlone() {
        for (String one : EACH) {
            reads(one);
            for (String other : EACH) reads(one + ";" + other);
            for (int end = 0; end < one.length(); end++) fault(one.substring(0, end), end);
            fault(one + ";", one.length() + 1);
            fault(one + " ", one.length());
            fault(" " + one, 0);
            fault(one.toUpperCase(), 0);
        }
    }

    private static void promise10OneBlankAheadOfEachPart() {
        for (String one : EACH) {
            for (int at = one.indexOf(' '); at >= 0; at = one.indexOf(' ', at + 1)) {
                fault(one.substring(0, at) + " " + one.substring(at), at + 1);
                String joined = one.substring(0, at) + one.substring(at + 1);
                fault(joined, joined.endsWith(" 12") ? joined.length() : at);
                fault(one.substring(0, at) + "\t" + one.substring(at + 1), at);
            }
        }
        fault("free a >0", 6);
        fault("free a> 0", 7);
        fault("free a>0 |a>0", 8);
        fault("free a>0| a>0", 9);
        fault("free ( a>0)", 6);
        fault("free ! a>0", 6);
        fault("least 1 ;least 1", 7);
        fault("least 1; least 1", 8);
        fault("least ", 6);
    }

    // ---- promise 10: figures

    private static void promise10OneOrTwoFigures() {
        String[] ahead = {"free a>", "oath t a<", "lose ", "both ", "lose 1 ", "both 1 ", "least "};
        String[] behind = {"", "", " 1", " 1", "", "", ""};
        for (int k = 0; k < ahead.length; k++) {
            int at = ahead[k].length();
            for (String number : new String[] {"1", "9", "01", "09", "10", "99"}) reads(ahead[k] + number + behind[k]);
            for (String number : new String[] {"100", "999", "010", "012"}) fault(ahead[k] + number + behind[k], at + 2);
            fault(ahead[k] + behind[k], at);
            for (String number : new String[] {"-1", "+1", "/", ":", "x1"}) fault(ahead[k] + number + behind[k], at);
            for (String number : new String[] {"1/", "1:", "1.", "1x"}) fault(ahead[k] + number + behind[k], at + 1);
        }
    }

    private static void promise10ZeroIsTaken() {
        for (String zero : new String[] {"0", "00"}) {
            reads("free a>" + zero);
            reads("least " + zero);
            reads("lose " + zero + " 1");
            reads("both " + zero + " 1");
            fault("free a>" + zero + (zero.length() == 2 ? "0" : "00"), 9);
            fault("least " + zero + (zero.length() == 2 ? "0" : "00"), 8);
        }
    }

    private static void promise10DIsNot0() {
        for (String word : new String[] {"lose", "both"}) {
            fault(word + " 1 0", 8);
            fault(word + " 1 0;free a>0", 8);
            fault(word + " 1 0;", 8);
            fault(word + " 1 0 ", 8);
            fault(word + " 1 0x", 8);
            fault(word + " 1 00", 8);
            fault(word + " 1 00;free a>0", 8);
            fault(word + " 1 000", 8);
            fault(word + " 1 001", 8);
            fault(word + " 12 0", 9);
            fault(word + " 12 0;", 9);
            fault(word + " 12 00", 9);
            fault("free a>0;" + word + " 0 0", 17);
            fault("free a>0;" + word + " 0 00", 17);
            for (int d = 1; d < 100; d++) reads(word + " 1 " + d);
            for (int d = 1; d < 10; d++) {
                reads(word + " 1 0" + d);
                fault(word + " 1 0" + d + "0", 9);
            }
        }
    }

    // ---- promise 10: brackets

    private static String open(int pattern, int n) {
        StringBuilder b = new StringBuilder();
        for (int k = 0; k < n; k++) b.append((pattern >> k & 1) == 1 ? '(' : '!');
        return b.toString();
    }

    private static String close(int pattern, int n) {
        return times(")", Integer.bitCount(pattern & (1 << n) - 1));
    }

    private static void promise10FourBracketsWithin() {
        for (int n = 1; n < 5; n++) {
            for (int p = 0; p < 1 << n; p++) reads("free " + open(p, n) + "a>0" + close(p, n));
        }
        for (int n = 5; n < 8; n++) {
            for (int p = 0; p < 1 << n; p++) fault("free " + open(p, n) + "a>0" + close(p, n), 9);
        }
    }

    /** What is closed again is not around what follows. */
    private static void promise10FourBracketsBeside() {
        for (int p = 0; p < 16; p++) {
            String four = open(p, 4) + "a>0" + close(p, 4);
            reads("free " + four + "&" + four + "|" + four);
            fault("free " + four + "&!" + four, 5 + four.length() + 5);
            fault("free " + four + "|(" + four + ")", 5 + four.length() + 5);
            reads("free " + four + ";bar " + four);
            String three = open(p, 3) + "a>0" + close(p, 3);
            reads("free (" + three + "|" + three + "&" + three + ")");
            fault("free (" + three + "|" + four + ")", 5 + 1 + three.length() + 4);
        }
        fault("free !!!!a>0|!!!!!a>0", 17);
        reads("free !!!!a>0|!!!!a>0");
        reads("free (a>0)|(!(!a>0))");
        fault("free (a>0)|(!(!(a>0)))", 15);
    }

    private static void promise10BracketsAreClosed() {
        fault("free (", 6);
        fault("free (a>0", 9);
        fault("free (a>0;", 9);
        fault("free ((a>0)", 11);
        fault("free (a>0))", 10);
        fault("free a>0)", 8);
        fault("free )", 5);
        fault("free ()", 6);
        fault("free (a>0(", 9);
        fault("free (a>0)(", 10);
        fault("free (a>0)a", 10);
        fault("free (a>0)!", 10);
        fault("free !)", 6);
        fault("free !;", 6);
        fault("free !|", 6);
        fault("free (|", 6);
        fault("free (a>0|)", 10);
        fault("free (a>0&)", 10);
    }

    // ---- promise 10: the places of faults

    private static void promise10EachByte() {
        String[] texts = {"free a>0", "bind (y<9|!o=12)&w>1;over h=1", "oath g !(!(a>0)&q=31);least 9", "bar b=1|x=0&u=1;lose 1 20",
            "both 07 05;roll s<2", "lose 0 1;least 00", "oath c a>0;oath t a>1;oath h a>2;oath o a>3"};
        for (String text : texts) {
            for (int end = 0; end <= text.length(); end++) {
                String part = text.substring(0, end);
                int[] faults = Grammar.faultsBehind(part);
                for (int b = 0; b < 256; b++) {
                    int law = written(new WhoMustSwear(), part + (char) b);
                    due("law() of " + part + ", and " + b, law, faults[b] < 0 ? 0 : -10 - faults[b]);
                }
            }
        }
    }

    private static void promise10EndsTooEarly() {
        for (String text : new String[] {"oath h !(a>12&(q=3|!w<2));lose 12 34", "both 1 2;least 12;roll a=1"}) {
            reads(text);
            for (int end = 0; end < text.length(); end++) {
                String part = text.substring(0, end);
                if (Grammar.fault(part) < 0) {
                    reads(part);
                } else {
                    fault(part, end);
                }
            }
        }
    }

    /** Only the first of several faults is told. */
    private static void promise10TheFirstByte() {
        fault("free a>0;x;y", 9);
        fault("free a>000;lose 1 0", 9);
        fault("lose 1 0;free !!!!!a>0", 8);
        fault("bar !!!!!a>0;lose 1 0", 8);
        fault("oath x c>0", 5);
        fault("lose 1 2;lose 1 0;lose 1 00", 17);
    }

    private static void promise10HundredBytes() {
        String law = "free a>0" + times("|a>0", 23);
        due("bytes", law.length(), 100);
        reads(law);
        fault(law.substring(0, 99), 99);
        fault(law.substring(0, 99) + ";", 99);
        fault(law.substring(0, 98) + "!0", 98);
        fault(law.substring(0, 96) + ";bar", 100);
        fault(law.substring(0, 96) + "|!a>", 100);
        fault(law.substring(0, 96) + "&((a", 100);
        fault(law.substring(0, 92) + ";lose 1 ", 100);
        fault(law.substring(0, 92) + ";lose 0 0", 100);
        reads(law.substring(0, 92) + ";least 1");
        reads(law.substring(0, 92) + "&((a>0))");
    }

    public static void main(String[] args) {
        promise9FourBytesAtMost();
        promise9HundredBytesAtMost();
        promise9NothingOfWhatIsRefused();
        promise9BadAheadOfFull();
        promise9TheLowestBytes();
        promise9NoByteIsFed();
        promise10SixLaws();
        promise10FullAheadOfTheFault();
        promise10TheTextStaysIfFull();
        promise10AFaultChangesNoMore();
        promise10ManyFaults();
        promise10OneToEightClauses();
        promise10EachClauseAlone();
        promise10OneBlankAheadOfEachPart();
        promise10OneOrTwoFigures();
        promise10ZeroIsTaken();
        promise10DIsNot0();
        promise10FourBracketsWithin();
        promise10FourBracketsBeside();
        promise10BracketsAreClosed();
        promise10EachByte();
        promise10EndsTooEarly();
        promise10TheFirstByte();
        promise10HundredBytes();
        end("BoundsTextTest");
    }
}
