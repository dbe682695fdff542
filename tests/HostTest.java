/** Promises 27 to 34: acts and their trace, kinds, counts, tapes. */
public final class HostTest extends Checks {
    private static void act(WhoMustSwear x, int kind, int act, int n, int want, int... bodies) {
        String call = "act(" + kind + ", " + act + ", " + n + ")";
        due(call, x.act(kind, act, n), want);
        due("count(4) after " + call, x.count(4), bodies.length);
        for (int k = 0; k < bodies.length; k++) due("trace(" + k + ") after " + call, x.trace(k), bodies[k]);
        due("trace(" + bodies.length + ") after " + call, x.trace(bodies.length), -1);
    }

    /** n is 3, m is 2. */
    private static WhoMustSwear threeAndTwo() {
        WhoMustSwear x = suited("free a>0", 1, 2, 3);
        x.suit(2, 3, 0);
        return x;
    }

    private static void promise27Act() {
        WhoMustSwear x = threeAndTwo();
        act(x, 0, 0, 5, 8, 10);
        act(x, 0, 1, 5, 6, 11, 10);
        act(x, 0, 2, 5, 12, 12, 11, 10);
        act(x, 1, 0, 5, 8, 10);
        act(x, 1, 1, 5, 6 ^ 6, 20, 11, 10);
        act(x, 1, 2, 5, 0, 12, 20, 11, 10);
        act(x, 2, 0, 5, 18, 30, 10);
        act(x, 2, 1, 5, 16 ^ 6, 20, 11, 30, 10);
        act(x, 2, 2, 5, (16 ^ 6) * 2 + (4 ^ 6), 31, 12, 20, 11, 30, 10, 20, 11, 30, 10);
        act(x, 3, 0, 5, -8, 40, 10);
        act(x, 3, 1, 5, -10, 11, 40, 10);
        act(x, 3, 2, 5, -20, 12, 11, 40, 10);
        act(x, 4, 0, 5, -8, 40, 10);
        act(x, 4, 1, 5, -15, 51, 11, 40, 10, 40, 10);
        act(x, 4, 2, 5, -24, 50, 12, 51, 11, 40, 10, 40, 10);
        act(x, 5, 0, 5, 8, 10);
        act(x, 5, 1, 5, 8, 60, 11, 10);
        act(x, 5, 2, 5, 16, 12, 60, 11, 10);
        act(x, 6, 0, 5, 8, 10);
        act(x, 6, 1, 5, 6, 11, 10);
        act(x, 6, 2, 5, 8 - 12, 70, 10, 12, 11, 10);
    }

    private static void promise27Edges() {
        WhoMustSwear x = threeAndTwo();
        act(x, 0, 0, Integer.MAX_VALUE, Integer.MIN_VALUE + 2, 10);
        act(x, 2, 0, Integer.MAX_VALUE, Integer.MAX_VALUE * 3 + 3, 30, 10);
        act(x, 0, 2, 1 << 30, Integer.MIN_VALUE + 2, 12, 11, 10);
        act(x, 3, 0, Integer.MIN_VALUE, Integer.MAX_VALUE - 2, 40, 10);
        act(x, 7, 0, 5, 0);
        act(x, 0, 0, 5, 8, 10);
        act(x, 0, 3, 5, 0);
        act(x, 0, 0, 5, 8, 10);
        act(x, 0, -1, 5, 0);
        act(x, 1, 3, 5, 0);
        act(x, 6, 3, 5, 0);
        act(x, -1, 0, 5, 0);
        act(x, Integer.MAX_VALUE, Integer.MIN_VALUE, 5, 0);
        act(new WhoMustSwear(), 0, 1, 5, 5, 11, 10);
    }

    private static void promise28Trace() {
        WhoMustSwear x = new WhoMustSwear();
        due("trace(0)", x.trace(0), -1);
        x.act(6, 2, 5);
        due("trace(-1)", x.trace(-1), -1);
        due("trace(1)", x.trace(1), 10);
        due("trace(4)", x.trace(4), 10);
        due("trace(5)", x.trace(5), -1);
        due("trace(20)", x.trace(20), -1);
        due("trace(most)", x.trace(Integer.MAX_VALUE), -1);
        due("trace(least)", x.trace(Integer.MIN_VALUE), -1);
        x.act(0, 0, 5);
        due("trace(1) of the latest", x.trace(1), -1);
    }

    private static void promise29Taken() {
        WhoMustSwear x = new WhoMustSwear();
        int[] above = {1, 3, 7, 9, 25, 33, 65};
        for (int kind = 0; kind < 7; kind++) {
            for (int k = 0; k < 7; k++) {
                due("taken(" + kind + ", " + k + ")", x.taken(kind, k), (above[kind] >> k & 1) == 1 ? kind : -12);
            }
            due("taken(" + kind + ", 7)", x.taken(kind, 7), -2);
            due("taken(7, " + kind + ")", x.taken(7, kind), -11);
            due("taken(-1, " + kind + ")", x.taken(-1, kind), -11);
        }
        due("taken(0, -1)", x.taken(0, -1), -2);
        due("taken(7, 7): BAD ahead of NOTHING", x.taken(7, 7), -2);
    }

    private static void promise30Count() {
        WhoMustSwear x = threeAndTwo();
        feed(x, "free ");
        x.act(2, 2, 1);
        int[] want = {2, 3, 1, 5, 10};
        for (int what = 0; what < 5; what++) due("count(" + what + ")", x.count(what), want[what]);
        due("count(5)", x.count(5), -2);
        due("count(-1)", x.count(-1), -2);
    }

    private static void promise31Tape() {
        WhoMustSwear x = new WhoMustSwear();
        due("tape(0, 2, 60)", x.tape(0, 2, 60), 1);
        due("item(0, 59, 5)", x.item(0, 59, 5), 1);
        due("tape(0, 2, 61)", x.tape(0, 2, 61), -2);
        due("tape(0, 5, 1)", x.tape(0, 5, 1), -2);
        due("tape(0, -2, 1)", x.tape(0, -2, 1), -2);
        due("tape(0, 2, -1)", x.tape(0, 2, -1), -14);
        due("tape(0, 2, least)", x.tape(0, 2, Integer.MIN_VALUE), -14);
        due("tape(0, 5, -1): BAD ahead of SIZE", x.tape(0, 5, -1), -2);
        due("tape(6, 5, -1): NONE ahead of BAD", x.tape(6, 5, -1), -1);
        due("tape(-1, 0, 1)", x.tape(-1, 0, 1), -1);
        due("read(0, 59): as it was", x.read(0, 59), 5);
        due("tape(0, 3, 60)", x.tape(0, 3, 60), 1);
        due("read(0, 59): all 0", x.read(0, 59), 0);
        due("tape(0, 3, 0)", x.tape(0, 3, 0), 1);
        due("read(0, 0)", x.read(0, 0), NO);
        due("item(0, 0, 1)", x.item(0, 0, 1), -13);
        due("tape(0, -1, 99)", x.tape(0, -1, 99), 1);
        due("tape(0, -1, -99)", x.tape(0, -1, -99), 1);
        due("item(0, 0, 1)", x.item(0, 0, 1), -11);
        due("read(0, 0)", x.read(0, 0), NO);
        due("tape(5, 0, 1)", x.tape(5, 0, 1), 1);
        due("read(5, 0)", x.read(5, 0), 0);
    }

    private static void promise32Item() {
        WhoMustSwear x = new WhoMustSwear();
        long v = 0x8234567890ABCDEFL;
        long[] want = {(byte) 0xEF, (short) 0xCDEF, (int) 0x90ABCDEFL, v, 1};
        for (int sort = 0; sort < 5; sort++) {
            x.tape(1, sort, 3);
            due("item(1, 2, v)", x.item(1, 2, v), 1);
            due("read(1, 2) of sort " + sort, x.read(1, 2), want[sort]);
            due("read(1, 1) of sort " + sort, x.read(1, 1), 0);
            due("item(1, 2, 256)", x.item(1, 2, 1L << 32), 1);
            due("read(1, 2) of sort " + sort, x.read(1, 2), sort == 3 ? 1L << 32 : sort == 4 ? 1 : 0);
            due("item(1, 2, 0)", x.item(1, 2, 0), 1);
            due("read(1, 2) of sort " + sort, x.read(1, 2), 0);
        }
        due("item(1, 3, 0)", x.item(1, 3, 0), -13);
        due("item(1, -1, 0)", x.item(1, -1, 0), -13);
        due("item(1, most, 0)", x.item(1, Integer.MAX_VALUE, 0), -13);
        due("item(2, -1, 0): NOTHING ahead of PLACE", x.item(2, -1, 0), -11);
        due("item(6, 0, 0)", x.item(6, 0, 0), -1);
        due("item(-1, 0, 0)", x.item(-1, 0, 0), -1);
    }

    private static void promise33Read() {
        WhoMustSwear x = new WhoMustSwear();
        x.tape(1, 3, 2);
        x.item(1, 0, -7);
        x.item(1, 1, Long.MAX_VALUE);
        due("read(1, 0)", x.read(1, 0), -7);
        due("read(1, 1)", x.read(1, 1), Long.MAX_VALUE);
        due("read(1, 2)", x.read(1, 2), NO);
        due("read(1, -1)", x.read(1, -1), NO);
        due("read(2, 0)", x.read(2, 0), NO);
        due("read(6, 0)", x.read(6, 0), NO);
        due("read(-1, 0)", x.read(-1, 0), NO);
    }

    private static void holds(WhoMustSwear x, int tape, long... items) {
        for (int k = 0; k < items.length; k++) due("read(" + tape + ", " + k + ")", x.read(tape, k), items[k]);
    }

    private static void promise34Shift() {
        WhoMustSwear x = new WhoMustSwear();
        x.tape(0, 1, 5);
        x.tape(1, 1, 3);
        x.tape(2, 2, 5);
        for (int k = 0; k < 5; k++) x.item(0, k, 10 + k);
        due("shift(0, 1, 1, 0, 2)", x.shift(0, 1, 1, 0, 2), 2);
        holds(x, 1, 11, 12, 0);
        holds(x, 0, 10, 11, 12, 13, 14);
        due("shift(0, 0, 0, 1, 4): upwards in itself", x.shift(0, 0, 0, 1, 4), 4);
        holds(x, 0, 10, 10, 11, 12, 13);
        due("shift(0, 2, 0, 0, 3): downwards in itself", x.shift(0, 2, 0, 0, 3), 3);
        holds(x, 0, 11, 12, 13, 12, 13);
        due("shift(0, 5, 1, 3, 0)", x.shift(0, 5, 1, 3, 0), 0);
        due("shift(0, 6, 1, 3, 0)", x.shift(0, 6, 1, 3, 0), -13);
        due("shift(0, 5, 1, 4, 0)", x.shift(0, 5, 1, 4, 0), -13);
        due("shift(0, 0, 1, 0, 4)", x.shift(0, 0, 1, 0, 4), -13);
        due("shift(1, 0, 0, 0, 4)", x.shift(1, 0, 0, 0, 4), -13);
        due("shift(0, 0, 1, 2, 2)", x.shift(0, 0, 1, 2, 2), -13);
        due("shift(0, 0, 1, 0, -1)", x.shift(0, 0, 1, 0, -1), -13);
        due("shift(0, -1, 1, 0, 1)", x.shift(0, -1, 1, 0, 1), -13);
        due("shift(0, 0, 1, -1, 1)", x.shift(0, 0, 1, -1, 1), -13);
        due("shift(0, most, 1, 0, most)", x.shift(0, Integer.MAX_VALUE, 1, 0, Integer.MAX_VALUE), -13);
        due("shift(0, 1, 1, most, most)", x.shift(0, 1, 1, Integer.MAX_VALUE, Integer.MAX_VALUE), -13);
        holds(x, 1, 11, 12, 0);
        due("shift(0, -1, 2, 0, 1): CAST ahead of PLACE", x.shift(0, -1, 2, 0, 1), -12);
        due("shift(0, 0, 3, 0, 1)", x.shift(0, 0, 3, 0, 1), -11);
        due("shift(3, 0, 2, 0, 1)", x.shift(3, 0, 2, 0, 1), -11);
        due("shift(6, 0, 3, 0, 1): NONE ahead of NOTHING", x.shift(6, 0, 3, 0, 1), -1);
        due("shift(3, 0, -1, 0, 1)", x.shift(3, 0, -1, 0, 1), -1);
        due("shift(0, 0, 6, 0, 1)", x.shift(0, 0, 6, 0, 1), -1);
    }

    public static void main(String[] args) {
        promise27Act();
        promise27Edges();
        promise28Trace();
        promise29Taken();
        promise30Count();
        promise31Tape();
        promise32Item();
        promise33Read();
        promise34Shift();
        end("HostTest");
    }
}
