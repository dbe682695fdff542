/** The bounds of promises 27 to 34: what wraps, what is kept of the trace, kinds, counts, tapes and what an item cuts off. */
public final class BoundsHostTest extends Twins {
    // ---- promise 27

    private static void act(WhoMustSwear x, int kind, int act, int n, int want, int... bodies) {
        String call = "act(" + kind + ", " + act + ", " + n + ")";
        due(call, x.act(kind, act, n), want);
        due("count(4) after " + call, x.count(4), bodies.length);
        for (int k = 0; k < 22; k++) due("trace(" + k + ") after " + call, x.trace(k), k < bodies.length ? bodies[k] : -1);
    }

    private static void noTrace(WhoMustSwear x, int kind, int act) {
        x.act(2, 2, 5);
        act(x, kind, act, 5, 0);
        x.act(2, 2, 5);
        act(x, kind, act, 0, 0);
    }

    private static void promise27KindsAre0To6() {
        WhoMustSwear x = new WhoMustSwear();
        act(x, 0, 0, 5, 5, 10);
        act(x, 6, 0, 5, 5, 10);
        for (int kind : new int[] {-1, 7, LEAST, MOST}) for (int act = 0; act < 3; act++) noTrace(x, kind, act);
    }

    private static void promise27ActsAre0To2() {
        WhoMustSwear x = new WhoMustSwear();
        act(x, 0, 2, 5, 10, 12, 11, 10);
        for (int kind = 0; kind < 7; kind++) {
            for (int act : new int[] {-1, 3, LEAST, MOST}) noTrace(x, kind, act);
        }
        noTrace(x, -1, -1);
        noTrace(x, 7, 3);
    }

    /** The trace is all that is changed by what is refused. */
    private static void promise27NoMoreIsChanged() {
        Maker emptied = () -> {
            WhoMustSwear x = furnished();
            x.act(7, 0, 0);
            return x;
        };
        unchanged("act(-1, 0, 5)", emptied, 0, x -> x.act(-1, 0, 5));
        unchanged("act(0, 3, 5)", emptied, 0, x -> x.act(0, 3, 5));
        Maker sworn = () -> {
            WhoMustSwear x = furnished();
            x.act(0, 1, 9);
            return x;
        };
        unchanged("act(0, 1, 5)", sworn, 5 + 4 - 2, x -> x.act(0, 1, 5));
    }

    private static void promise27Wraps() {
        WhoMustSwear x = full();
        int n = 24, m = 5;
        for (int v : new int[] {MOST, MOST - n, MOST - n + 1, LEAST, LEAST + 1, 1 << 30, -(1 << 30), 1 << 29, -1, 0}) {
            act(x, 0, 0, v, v + n, 10);
            act(x, 0, 1, v, v + n - m, 11, 10);
            act(x, 0, 2, v, (v + n - m) * 2, 12, 11, 10);
            act(x, 1, 1, v, v + n - m ^ 6, 20, 11, 10);
            act(x, 2, 0, v, v * 3 + n, 30, 10);
            act(x, 2, 2, v, (v * 3 + n - m ^ 6) * 2 + (3 + n - m ^ 6), 31, 12, 20, 11, 30, 10, 20, 11, 30, 10);
            act(x, 3, 0, v, -(v + n), 40, 10);
            act(x, 4, 1, v, -(v + n) - m - (2 + n), 51, 11, 40, 10, 40, 10);
            act(x, 4, 2, v, (-v - m - (2 + n)) * 2, 50, 12, 51, 11, 40, 10, 40, 10);
            act(x, 5, 1, v, v + m + n - m, 60, 11, 10);
            act(x, 6, 2, v, v + n - (v + n - m) * 2, 70, 10, 12, 11, 10);
        }
        act(x, 3, 0, LEAST - n, LEAST, 40, 10);
        act(x, 0, 0, MOST - n + 1, LEAST, 10);
        act(x, 0, 1, LEAST - n + m - 1, MOST, 11, 10);
    }

    /** n and m are those of the call. */
    private static void promise27CountsOfTheCall() {
        WhoMustSwear x = new WhoMustSwear();
        act(x, 5, 1, 0, 0, 60, 11, 10);
        due("law()", written(x, "free a>0"), 0);
        act(x, 0, 1, 0, 0, 11, 10);
        x.suit(0, 1, 0);
        act(x, 0, 1, 0, -1, 11, 10);
        x.claim(0, 9, 0);
        act(x, 0, 1, 0, 0, 11, 10);
        x.image();
        x.claim(0, 9, 0);
        act(x, 0, 0, 0, 2, 10);
        x.undo();
        act(x, 0, 0, 0, 1, 10);
        x.claim(0, 0, 0);
        act(x, 0, 0, 0, 1, 10);
    }

    // ---- promises 28 and 30: the trace

    private static void promise28Places() {
        WhoMustSwear x = new WhoMustSwear();
        for (int i : new int[] {LEAST, -1, 0, 1, 19, 20, MOST}) due("trace(" + i + ") of none", x.trace(i), -1);
        bounds("trace(n) of ten", Twins::furnished, NONE, 0, 31, 9, 10, (y, n) -> y.trace(n));
        for (int i : new int[] {10, 19, 20, 21}) due("trace(" + i + ") of ten", furnished().trace(i), -1);
        for (int kind = 0; kind < 7; kind++) {
            for (int act = 0; act < 3; act++) {
                x.act(kind, act, 1);
                int ran = x.count(4);
                due("trace of the first", x.trace(0) > 0 ? 1 : 0, 1);
                due("trace of the last", x.trace(ran - 1), 10);
                due("trace behind the last", x.trace(ran), -1);
                due("trace ahead of the first", x.trace(-1), -1);
                due("all are kept", ran <= 20 ? 1 : 0, 1);
            }
        }
    }

    private static void promise28OnlyTheLatest() {
        WhoMustSwear x = new WhoMustSwear();
        act(x, 2, 2, 5, (15 ^ 6) * 2 + (3 ^ 6), 31, 12, 20, 11, 30, 10, 20, 11, 30, 10);
        act(x, 0, 0, 5, 5, 10);
        act(x, 4, 1, 5, -7, 51, 11, 40, 10, 40, 10);
        act(x, 8, 0, 5, 0);
        act(x, 0, 1, 5, 5, 11, 10);
    }

    // ---- promise 29

    private static void promise29KindsAre0To6() {
        bounds("taken(n, 0)", Twins::furnished, NOTHING, 0, 0, 6, 6, (x, n) -> x.taken(n, 0));
        bounds("taken(0, n)", Twins::furnished, BAD, 0, 0, 6, CAST, (x, n) -> x.taken(0, n));
        bounds("taken(6, n)", Twins::furnished, BAD, 0, 6, 6, 6, (x, n) -> x.taken(6, n));
    }

    private static void promise29BadNothingCast() {
        for (int kind : new int[] {-1, 7, LEAST, MOST}) {
            for (int k : new int[] {-1, 7, LEAST, MOST}) unchanged("taken(" + kind + ", " + k + ")", Twins::furnished, BAD, x -> x.taken(kind, k));
            for (int k = 0; k < 7; k++) due("taken(" + kind + ", " + k + ")", new WhoMustSwear().taken(kind, k), -11);
        }
    }

    private static void promise29OrUnder() {
        WhoMustSwear x = new WhoMustSwear();
        int[][] above = {{}, {0}, {0, 1}, {0}, {0, 3}, {0}, {0}};
        for (int kind = 0; kind < 7; kind++) {
            for (int k = 0; k < 7; k++) {
                boolean so = k == kind;
                for (int a : above[kind]) so |= a == k;
                due("taken(" + kind + ", " + k + ")", x.taken(kind, k), so ? kind : -12);
            }
        }
    }

    // ---- promise 30

    private static void promise30WhatIs0To4() {
        bounds("count(n)", Twins::furnished, BAD, 0, 2, 4, 10, (x, n) -> x.count(n));
        bounds("count(n) of a new one", WhoMustSwear::new, BAD, 0, 0, 4, 0, (x, n) -> x.count(n));
    }

    private static void promise30Full() {
        int[] most = {5, 24, 6, 100, 0};
        for (int what = 0; what < 5; what++) due("count(" + what + ") of the full one", full().count(what), most[what]);
    }

    // ---- promise 31

    private static void promise31TapesAre0To5() {
        bounds("tape(n, 0, 3)", Twins::furnished, NONE, 0, 1, 5, 1, (x, n) -> x.tape(n, 0, 3));
        bounds("tape(n, -1, 0)", Twins::furnished, NONE, 0, 1, 5, 1, (x, n) -> x.tape(n, -1, 0));
    }

    private static void promise31SortsAreTo4() {
        bounds("tape(1, n, 3)", Twins::furnished, BAD, -1, 1, 4, 1, (x, n) -> x.tape(1, n, 3));
        bounds("tape(5, n, 3)", Twins::furnished, BAD, -1, 1, 4, 1, (x, n) -> x.tape(5, n, 3));
    }

    private static void promise31SizesAre0To60() {
        for (int sort = 0; sort < 5; sort++) {
            int s = sort;
            for (int size : new int[] {0, 1, 59, 60}) {
                WhoMustSwear x = furnished();
                due("tape(0, " + sort + ", " + size + ")", x.tape(0, sort, size), 1);
                for (int i = 0; i < size; i++) due("read(0, " + i + ")", x.read(0, i), 0);
                due("read(0, " + size + ")", x.read(0, size), NO);
                due("item(0, " + size + ", 1)", x.item(0, size, 1), -13);
                due("item(0, " + (size - 1) + ", 1)", x.item(0, size - 1, 1), size == 0 ? -13 : 1);
            }
            for (int n : new int[] {61, 62, MOST}) unchanged("tape(0, " + sort + ", " + n + ")", Twins::furnished, BAD, x -> x.tape(0, s, n));
            for (int n : new int[] {-1, -2, LEAST}) unchanged("tape(0, " + sort + ", " + n + ")", Twins::furnished, SIZE, x -> x.tape(0, s, n));
        }
    }

    private static void promise31HoldsNothing() {
        for (int n : new int[] {LEAST, -1, 0, 1, 60, 61, MOST}) {
            WhoMustSwear x = furnished();
            due("tape(0, -1, " + n + ")", x.tape(0, -1, n), 1);
            due("item(0, 0, 1)", x.item(0, 0, 1), -11);
            due("read(0, 0)", x.read(0, 0), NO);
            due("shift(0, 0, 2, 0, 0)", x.shift(0, 0, 2, 0, 0), -11);
            unchanged("tape(3, -1, " + n + ")", Twins::furnished, 1, y -> y.tape(3, -1, n));
        }
    }

    private static void promise31NoneBadSize() {
        for (int tape : new int[] {-1, 6}) {
            unchanged("tape(" + tape + ", 5, 61)", Twins::furnished, NONE, x -> x.tape(tape, 5, 61));
            unchanged("tape(" + tape + ", 0, -1)", Twins::furnished, NONE, x -> x.tape(tape, 0, -1));
            unchanged("tape(" + tape + ", -2, -1)", Twins::furnished, NONE, x -> x.tape(tape, -2, -1));
        }
        for (int sort : new int[] {-2, 5}) {
            unchanged("tape(0, " + sort + ", -1)", Twins::furnished, BAD, x -> x.tape(0, sort, -1));
            unchanged("tape(0, " + sort + ", 61)", Twins::furnished, BAD, x -> x.tape(0, sort, 61));
        }
    }

    /** A row that becomes another of the same size keeps nothing of it, nor does what was nothing. */
    private static void promise31AllAre0() {
        WhoMustSwear x = new WhoMustSwear();
        for (int sort = 0; sort < 5; sort++) {
            x.tape(0, sort, 60);
            for (int i = 0; i < 60; i++) due("read(0, " + i + ") of sort " + sort, x.read(0, i), 0);
            x.item(0, 0, -1);
            x.item(0, 59, -1);
        }
        x.tape(0, -1, 0);
        x.tape(0, 4, 60);
        due("read(0, 0)", x.read(0, 0), 0);
        due("read(0, 59)", x.read(0, 59), 0);
        x.item(0, 59, 1);
        x.tape(0, 4, 2);
        x.tape(0, 4, 60);
        due("read(0, 59)", x.read(0, 59), 0);
    }

    // ---- promise 32

    private static void promise32TapesAndPlaces() {
        bounds("item(n, 0, 7)", Twins::furnished, NONE, 0, 1, 5, -11, (x, n) -> x.item(n, 0, 7));
        bounds("item(0, n, 7)", Twins::furnished, PLACE, 0, 1, 2, 1, (x, n) -> x.item(0, n, 7));
        bounds("item(0, n, 7) of 60", BoundsHostTest::sixty, PLACE, 0, 1, 59, 1, (x, n) -> x.item(0, n, 7));
    }

    private static WhoMustSwear sixty() {
        WhoMustSwear x = new WhoMustSwear();
        x.tape(0, 3, 60);
        for (int i = 0; i < 60; i++) x.item(0, i, 100 + i);
        return x;
    }

    private static void promise32NoneNothingPlace() {
        for (int i : new int[] {LEAST, -1, 0, 60, MOST}) {
            unchanged("item(6, " + i + ", 7)", Twins::furnished, NONE, x -> x.item(6, i, 7));
            unchanged("item(-1, " + i + ", 7)", Twins::furnished, NONE, x -> x.item(-1, i, 7));
            unchanged("item(5, " + i + ", 7)", Twins::furnished, NOTHING, x -> x.item(5, i, 7));
        }
        WhoMustSwear x = new WhoMustSwear();
        x.tape(0, 0, 0);
        due("item(0, 0, 7) of a row of none", x.item(0, 0, 7), -13);
    }

    private static void item(int sort, long v, long want) {
        WhoMustSwear x = new WhoMustSwear();
        x.tape(3, sort, 3);
        due("item(3, 1, " + v + ") of sort " + sort, x.item(3, 1, v), 1);
        due("read(3, 0)", x.read(3, 0), 0);
        due("read(3, 1) of " + v + " of sort " + sort, x.read(3, 1), want);
        due("read(3, 2)", x.read(3, 2), 0);
    }

    private static void promise32WhatIsCutOff() {
        int[] bits = {8, 16, 32};
        for (int sort = 0; sort < 3; sort++) {
            long half = 1L << bits[sort] - 1;
            item(sort, half - 1, half - 1);
            item(sort, half, -half);
            item(sort, half + 1, -half + 1);
            item(sort, -half, -half);
            item(sort, -half - 1, half - 1);
            item(sort, 2 * half - 1, -1);
            item(sort, 2 * half, 0);
            item(sort, 2 * half + 1, 1);
            item(sort, -2 * half, 0);
            item(sort, Long.MAX_VALUE, -1);
            item(sort, Long.MIN_VALUE, 0);
            item(sort, -1, -1);
            item(sort, 0, 0);
        }
    }

    private static void promise32LongsAreWhole() {
        for (long v : new long[] {Long.MAX_VALUE, Long.MIN_VALUE + 1, 1L << 32, -(1L << 32), 1L << 31, -1, 0}) item(3, v, v);
        item(3, Long.MIN_VALUE, Long.MIN_VALUE);
    }

    private static void promise32Booleans() {
        for (long v : new long[] {1, 2, -1, 256, 65536, 1L << 32, 1L << 63, Long.MAX_VALUE}) item(4, v, 1);
        item(4, 0, 0);
    }

    // ---- promise 33

    private static void promise33TapesAndPlaces() {
        bounds("read(n, 0)", Twins::furnished, NO, 0, 3, 4, 0, (x, n) -> x.read(n, 0));
        bounds("read(0, n)", Twins::furnished, NO, 0, 3, 2, 0, (x, n) -> x.read(0, n));
        bounds("read(0, n) of 60", BoundsHostTest::sixty, NO, 0, 100, 59, 159, (x, n) -> x.read(0, n));
        for (int i : new int[] {LEAST, -1, 0, 1, MOST}) {
            unchanged("read(6, " + i + ")", Twins::furnished, NO, x -> x.read(6, i));
            unchanged("read(-1, " + i + ")", Twins::furnished, NO, x -> x.read(-1, i));
            unchanged("read(5, " + i + ") of nothing", Twins::furnished, NO, x -> x.read(5, i));
        }
        WhoMustSwear x = new WhoMustSwear();
        x.tape(5, 3, 1);
        due("item(5, 0, 9)", x.item(5, 0, 9), 1);
        due("read(5, 0)", x.read(5, 0), 9);
    }

    // ---- promise 34

    private static void promise34TapesThatThereAre() {
        bounds("shift(n, 0, 0, 0, 0)", Twins::furnished, NONE, 0, 0, 5, -11, (x, n) -> x.shift(n, 0, 0, 0, 0));
        bounds("shift(0, 0, n, 0, 0)", Twins::furnished, NONE, 0, 0, 5, -11, (x, n) -> x.shift(0, 0, n, 0, 0));
    }

    private static void promise34NoneNothingCastPlace() {
        unchanged("shift(6, -1, 5, -1, -1)", Twins::furnished, NONE, x -> x.shift(6, -1, 5, -1, -1));
        unchanged("shift(5, -1, -1, -1, -1)", Twins::furnished, NONE, x -> x.shift(5, -1, -1, -1, -1));
        unchanged("shift(5, -1, 3, -1, -1)", Twins::furnished, NOTHING, x -> x.shift(5, -1, 3, -1, -1));
        unchanged("shift(5, -1, 0, -1, -1)", Twins::furnished, NOTHING, x -> x.shift(5, -1, 0, -1, -1));
        unchanged("shift(0, -1, 5, -1, -1)", Twins::furnished, NOTHING, x -> x.shift(0, -1, 5, -1, -1));
        unchanged("shift(5, 0, 5, 0, 0)", Twins::furnished, NOTHING, x -> x.shift(5, 0, 5, 0, 0));
        unchanged("shift(0, -1, 1, -1, -1)", Twins::furnished, CAST, x -> x.shift(0, -1, 1, -1, -1));
        unchanged("shift(0, 0, 1, 0, 0)", Twins::furnished, CAST, x -> x.shift(0, 0, 1, 0, 0));
        unchanged("shift(4, 9, 0, 9, 9)", Twins::furnished, CAST, x -> x.shift(4, 9, 0, 9, 9));
    }

    private static void promise34UnlikeSorts() {
        for (int one = 0; one < 5; one++) {
            for (int other = 0; other < 5; other++) {
                WhoMustSwear x = new WhoMustSwear();
                x.tape(0, one, 0);
                x.tape(1, other, 0);
                due("shift of sort " + one + " to " + other, x.shift(0, 0, 1, 0, 0), one == other ? 0 : -12);
            }
        }
    }

    /** From a row of 3 to a row of 2: each end by itself. */
    private static void promise34Places() {
        for (int i = -1; i < 5; i++) {
            for (int j = -1; j < 4; j++) {
                for (int n = -1; n < 5; n++) {
                    int from = i, to = j, many = n;
                    String call = "shift(0, " + i + ", 2, " + j + ", " + n + ")";
                    if (i >= 0 && j >= 0 && n >= 0 && i + n <= 3 && j + n <= 2) {
                        WhoMustSwear x = furnished();
                        due(call, x.shift(0, i, 2, j, n), n);
                        int[] row = {3, 4, 0};
                        for (int k = 0; k < 3; k++) due("read(0, " + k + ") after " + call, x.read(0, k), row[k]);
                        for (int k = 0; k < 2; k++) {
                            due("read(2, " + k + ") after " + call, x.read(2, k), k >= j && k < j + n ? row[i + k - j] : 0);
                        }
                    } else {
                        unchanged(call, Twins::furnished, PLACE, x -> x.shift(0, from, 2, to, many));
                    }
                }
            }
        }
    }

    private static void promise34FarPlaces() {
        for (int far : new int[] {LEAST, LEAST + 1, MOST - 1, MOST}) {
            unchanged("shift(0, " + far + ", 2, 0, 0)", Twins::furnished, PLACE, x -> x.shift(0, far, 2, 0, 0));
            unchanged("shift(0, 0, 2, " + far + ", 0)", Twins::furnished, PLACE, x -> x.shift(0, 0, 2, far, 0));
            unchanged("shift(0, 0, 2, 0, " + far + ")", Twins::furnished, PLACE, x -> x.shift(0, 0, 2, 0, far));
            unchanged("shift(0, " + far + ", 2, " + far + ", " + far + ")", Twins::furnished, PLACE, x -> x.shift(0, far, 2, far, far));
            unchanged("shift(0, 1, 2, 1, " + far + ")", Twins::furnished, PLACE, x -> x.shift(0, 1, 2, 1, far));
            unchanged("shift(0, " + far + ", 2, 0, 1)", Twins::furnished, PLACE, x -> x.shift(0, far, 2, 0, 1));
            unchanged("shift(0, 0, 2, " + far + ", 1)", Twins::furnished, PLACE, x -> x.shift(0, 0, 2, far, 1));
        }
    }

    private static void promise34InItself() {
        for (int i = 0; i < 60; i += 7) {
            for (int j = 0; j < 60; j += 5) {
                int n = 60 - Math.max(i, j);
                WhoMustSwear x = sixty();
                due("shift(0, " + i + ", 0, " + j + ", " + n + ")", x.shift(0, i, 0, j, n), n);
                for (int k = 0; k < 60; k++) due("read(0, " + k + ")", x.read(0, k), k >= j && k < j + n ? 100 + k - j + i : 100 + k);
            }
        }
        due("shift(0, 0, 0, 0, 60)", sixty().shift(0, 0, 0, 0, 60), 60);
        due("shift(0, 60, 0, 60, 0)", sixty().shift(0, 60, 0, 60, 0), 0);
        unchanged("shift(0, 0, 0, 0, 61)", BoundsHostTest::sixty, PLACE, x -> x.shift(0, 0, 0, 0, 61));
        unchanged("shift(0, 1, 0, 0, 60)", BoundsHostTest::sixty, PLACE, x -> x.shift(0, 1, 0, 0, 60));
        unchanged("shift(0, 0, 0, 1, 60)", BoundsHostTest::sixty, PLACE, x -> x.shift(0, 0, 0, 1, 60));
        unchanged("shift(0, 61, 0, 0, 0)", BoundsHostTest::sixty, PLACE, x -> x.shift(0, 61, 0, 0, 0));
        unchanged("shift(0, 0, 0, 61, 0)", BoundsHostTest::sixty, PLACE, x -> x.shift(0, 0, 0, 61, 0));
    }

    private static void promise34EachSort() {
        long[] most = {127, 32767, MOST, Long.MAX_VALUE, 1};
        long[] least = {-128, -32768, LEAST, Long.MIN_VALUE, 0};
        for (int sort = 0; sort < 5; sort++) {
            WhoMustSwear x = new WhoMustSwear();
            x.tape(0, sort, 2);
            x.tape(5, sort, 3);
            x.item(0, 0, most[sort]);
            x.item(0, 1, least[sort]);
            due("shift(0, 0, 5, 1, 2) of sort " + sort, x.shift(0, 0, 5, 1, 2), 2);
            due("read(5, 0)", x.read(5, 0), 0);
            due("read(5, 1)", x.read(5, 1), most[sort]);
            due("read(5, 2)", x.read(5, 2), least[sort]);
        }
    }

    public static void main(String[] args) {
        promise27KindsAre0To6();
        promise27ActsAre0To2();
        promise27NoMoreIsChanged();
        promise27Wraps();
        promise27CountsOfTheCall();
        promise28Places();
        promise28OnlyTheLatest();
        promise29KindsAre0To6();
        promise29BadNothingCast();
        promise29OrUnder();
        promise30WhatIs0To4();
        promise30Full();
        promise31TapesAre0To5();
        promise31SortsAreTo4();
        promise31SizesAre0To60();
        promise31HoldsNothing();
        promise31NoneBadSize();
        promise31AllAre0();
        promise32TapesAndPlaces();
        promise32NoneNothingPlace();
        promise32WhatIsCutOff();
        promise32LongsAreWhole();
        promise32Booleans();
        promise33TapesAndPlaces();
        promise34TapesThatThereAre();
        promise34NoneNothingCastPlace();
        promise34UnlikeSorts();
        promise34Places();
        promise34FarPlaces();
        promise34InItself();
        promise34EachSort();
        end("BoundsHostTest");
    }
}
