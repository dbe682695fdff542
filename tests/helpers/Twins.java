import java.util.ArrayList;
import java.util.List;

/**
 * Holds an object on which a call was made against its twin: one that was made alike, and not called so. All that can
 * be asked of the two must be the same, if the call was refused or only asked something.
 */
abstract class Twins extends Checks {
    static final int NONE = -1, BAD = -2, STATE = -3, FULL = -4, NOT_SO = -5, TOO_MANY = -9;
    static final int NOTHING = -11, CAST = -12, PLACE = -13, SIZE = -14;
    static final int LEAST = Integer.MIN_VALUE, MOST = Integer.MAX_VALUE;

    interface Maker {
        WhoMustSwear make();
    }

    interface Call {
        long on(WhoMustSwear x);
    }

    interface Counted {
        long on(WhoMustSwear x, int n);
    }

    static void unchanged(String call, Maker maker, long want, Call c) {
        WhoMustSwear x = maker.make();
        due(call, c.on(x), want);
        List<String> now = told(x);
        List<String> twin = told(maker.make());
        for (int k = 0; k < Math.max(now.size(), twin.size()); k++) {
            String one = k < now.size() ? now.get(k) : "nothing";
            String other = k < twin.size() ? twin.get(k) : "nothing";
            if (!one.equals(other)) {
                due("after " + call + ": " + one + ", without it: " + other, 1, 0);
                return;
            }
        }
    }

    /** first and last are taken; the numbers beside them, and the farthest there are, are refused and change nothing. */
    static void bounds(String call, Maker maker, long refusal, int first, long atFirst, int last, long atLast, Counted c) {
        due(call + " with " + first, c.on(maker.make(), first), atFirst);
        due(call + " with " + last, c.on(maker.make(), last), atLast);
        for (int n : new int[] {first - 1, last + 1, LEAST, MOST}) {
            unchanged(call + " with " + n, maker, refusal, x -> c.on(x, n));
        }
    }

    /** Where none is taken at all. */
    static void noNumber(String call, Maker maker, long refusal, Counted c) {
        for (int n : new int[] {-1, 0, 1, LEAST, MOST}) unchanged(call + " with " + n, maker, refusal, x -> c.on(x, n));
    }

    /** As many bytes a call as can be, so that the calls of an object suffice. */
    static void write(WhoMustSwear x, String text) {
        for (int at = 0; at < text.length(); at += 4) {
            int n = Math.min(4, text.length() - at);
            int bytes = 0;
            for (int k = 0; k < n; k++) bytes = bytes << 8 | text.charAt(at + k) & 255;
            x.feed(bytes, n);
        }
    }

    static int written(WhoMustSwear x, String text) {
        write(x, text);
        return x.law();
    }

    /** Laws 0, 1; suits 0, 1, the other way round; claims 0, 1 and 2, 3 of them; an image that is left behind; the rest. */
    static WhoMustSwear furnished() {
        WhoMustSwear x = new WhoMustSwear();
        written(x, "oath p a>9;roll a<9;lose 1 3;bar q=5");
        written(x, "free a=40;bind a>40;oath t a<40");
        x.suit(0, 1, 0);
        x.suit(1, 0, 1);
        x.claim(0, 50, 0);
        x.claim(0, 5, 2);
        x.claim(1, 30, 1);
        x.claim(1, 99, 0);
        for (int c = 0; c < 4; c++) x.proof(c, c, 1);
        x.answer(0, 20, false);
        x.truth(0, 60);
        x.truth(2, 30);
        x.known(0, 3);
        x.known(7, 9);
        x.image();
        x.known(0, 4);
        x.known(7, 17);
        x.answer(1, 2, false);
        x.truth(3, 7);
        x.act(2, 2, 5);
        x.tape(0, 0, 3);
        x.item(0, 0, 3);
        x.item(0, 1, 4);
        x.tape(1, 3, 2);
        x.item(1, 1, -7);
        x.tape(2, 0, 2);
        x.tape(4, 4, 1);
        write(x, "free a");
        return x;
    }

    /** All laws, suits, claims (five of each suit, four of the last) and bytes that there can be. */
    static WhoMustSwear full() {
        WhoMustSwear x = new WhoMustSwear();
        for (int k = 0; k < 6; k++) written(x, "free a>0");
        for (int s = 0; s < 5; s++) x.suit(s, s + 1, s);
        for (int c = 0; c < 24; c++) x.claim(c % 5, c + 1, c % 3);
        x.image();
        for (int k = 0; k < 25; k++) x.feed('f', 4);
        return x;
    }

    /** A law, and so many suits of person 0 against person 1. */
    static WhoMustSwear suits(int n) {
        WhoMustSwear x = new WhoMustSwear();
        written(x, "free a>0");
        for (int s = 0; s < n; s++) x.suit(0, 1, 0);
        return x;
    }

    private static void add(List<String> all, String call, long answer) {
        all.add(call + " " + answer);
    }

    /** All that an object tells; it is of no use afterwards. */
    static List<String> told(WhoMustSwear x) {
        List<String> all = new ArrayList<>();
        for (int what = 0; what < 5; what++) add(all, "count(" + what + ")", x.count(what));
        for (int i = 0; i < 21; i++) add(all, "trace(" + i + ")", x.trace(i));
        for (int t = 0; t < 6; t++) tellTape(all, x, t);
        tellClaims(all, x);
        tellKnown(all, x);
        add(all, "law()", x.law());
        add(all, "count(2)", x.count(2));
        add(all, "count(3)", x.count(3));
        add(all, "undo()", x.undo());
        for (int c = 0; c < x.count(1); c++) add(all, "of(" + c + ", 3)", x.of(c, 3));
        tellKnown(all, x);
        return all;
    }

    private static void tellTape(List<String> all, WhoMustSwear x, int t) {
        for (int i = 0; i < 61; i++) {
            long item = x.read(t, i);
            add(all, "read(" + t + ", " + i + ")", item);
            if (item == NO) break;
        }
        x.item(t, 0, 0x123456789ABCDEF0L);
        add(all, "the sort of " + t, x.read(t, 0));
        add(all, "shift in " + t, x.shift(t, 0, t, 0, 0));
    }

    private static void tellClaims(List<String> all, WhoMustSwear x) {
        int claims = x.count(1);
        for (int c = 0; c < claims; c++) {
            for (int what = 0; what < 10; what++) add(all, "of(" + c + ", " + what + ")", x.of(c, what));
            if (claims < 12) add(all, "due(" + c + ", 2)", x.due(c, 2));
        }
        for (int s = 0; s < x.count(0); s++) {
            add(all, "ends(" + s + ", 2, 0)", x.ends(s, 2, 0));
            add(all, "truly(" + s + ")", x.truly(s));
        }
    }

    private static void tellKnown(List<String> all, WhoMustSwear x) {
        for (int p = 0; p < 8; p++) add(all, "known(" + p + ", 0)", x.known(p, 0));
    }
}
