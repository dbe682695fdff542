/** Counts the answers that are not as due, and feeds texts; a test extends it for its short names. */
abstract class Checks {
    static final long NO = Long.MIN_VALUE;

    private static int wrong = 0;
    private static int asked = 0;

    static void due(String call, long got, long want) {
        asked++;
        if (got != want) {
            wrong++;
            if (wrong <= 40) System.out.println(call + " answered " + got + ", due is " + want);
        }
    }

    /** A fraction, told by its two parts. */
    static void due(String call, long above, long below, long wantAbove, long wantBelow) {
        due(call + " above", above, wantAbove);
        due(call + " below", below, wantBelow);
    }

    static int wrong() {
        return wrong;
    }

    static void feed(WhoMustSwear x, String text) {
        for (int k = 0; k < text.length(); k++) x.feed(text.charAt(k), 1);
    }

    static int law(WhoMustSwear x, String text) {
        feed(x, text);
        return x.law();
    }

    /** A new object with a law 0 and a suit 0 of person 0 against person 1, with claims of these sums, of sort 0. */
    static WhoMustSwear suited(String law, int... sums) {
        WhoMustSwear x = new WhoMustSwear();
        due("law() of " + law, law(x, law), 0);
        due("suit(0, 1, 0)", x.suit(0, 1, 0), 0);
        for (int k = 0; k < sums.length; k++) due("claim(0, " + sums[k] + ", 0)", x.claim(0, sums[k], 0), k);
        return x;
    }

    static void end(String test) {
        System.out.println(test + ": " + asked + " answers, " + wrong + " not as due");
        if (wrong != 0) System.exit(1);
    }
}
