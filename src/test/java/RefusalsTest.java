import java.util.function.Supplier;
import java.util.function.ToLongFunction;

/**
 * Each REFUSAL and each FAULT that a promise's line names: what is answered, which of several is told, what fault()
 * answers then, and that all that can be asked is as it was. Each is tried on an object of its own.
 */
public final class RefusalsTest {
    private static final int MAX = Integer.MAX_VALUE, MIN = Integer.MIN_VALUE;
    private static final int UNKNOWN = -1, OUTSIDE = -2, STATE = -3, FULL = -4;
    private static final int NULL = -11, CAST = -12, INDEX = -13, SIZE = -14;
    private static final long LOST = Long.MIN_VALUE;
    private static final String TEXT = "vb1g1d2;011;012;121;209";

    private static final Supplier<RopedBells> NEW = RopedBells::new;
    private static final Supplier<RopedBells> NO_VALLEY = RefusalsTest::withSheets;
    private static final Supplier<RopedBells> SOME = RefusalsTest::withSome;
    private static final Supplier<RopedBells> MOST = RefusalsTest::withMost;

    private static final Check c = new Check("RefusalsTest");

    public static void main(String[] args) {
        valley();
        tune();
        bellsAndRopes();
        pullsAndReadings();
        minutes();
        asks();
        sheetAndLose();
        putAndCell();
        copyUnknownAndNull();
        copyCastAndIndex();
        parts();
        c.end();
    }

    /** Sheet 0 has bytes, 1 has shorts, 2 has ints (60 of them, with a text), 3 has nothing. */
    private static RopedBells withSheets() {
        RopedBells x = new RopedBells();
        x.sheet(0, 0, 3);
        x.put(0, 0, -6);
        x.put(0, 2, 127);
        x.sheet(1, 1, 4);
        x.put(1, 1, -300);
        x.put(1, 3, 2);
        x.sheet(2, 2, 60);
        for (int i = 0; i < TEXT.length(); i++) {
            x.put(2, i, TEXT.charAt(i));
        }
        x.put(2, 59, MIN);
        return x;
    }

    private static RopedBells withSome() {
        RopedBells x = withSheets();
        x.valley(2, 2, 0, TEXT.length());
        x.tie(2, true);
        x.span(3);
        x.pull(0, 4);
        x.pull(1, 8);
        x.reading(0, 4, true);
        x.reading(1, 0, false);
        x.tell(1);
        return x;
    }

    private static RopedBells withMost() {
        RopedBells x = withSome();
        for (int k = 2; k < 6; k++) {
            x.pull(k % 2, 3 * k);
            x.reading(k % 2, 20 + k, false);
        }
        return x;
    }

    /** Whatever can be asked: some 120 calls. */
    private static String all(RopedBells x) {
        StringBuilder s = new StringBuilder();
        for (int what = 0; what < 5; what++) {
            s.append(" many").append(x.many(what));
        }
        for (int b = 0; b < 4; b++) {
            for (int what = 0; what < 4; what++) {
                s.append(" bell").append(x.ofBell(b, what));
            }
        }
        for (int r = 0; r < 5; r++) {
            for (int what = 0; what < 3; what++) {
                s.append(" rope").append(x.ofRope(r, what));
            }
        }
        for (int minute = 0; minute < 40; minute++) {
            s.append(" peal").append(x.peal(minute));
        }
        s.append(" stops").append(x.stops()).append(" first").append(x.first()).append(" gone").append(x.gone());
        s.append(" sneezes").append(x.sneezes(0)).append(" trace").append(x.trace());
        int[] sizes = {3, 4, 60, 0};
        for (int k = 0; k < 4; k++) {
            for (int i = 0; i <= sizes[k]; i++) {
                if (i < 24 || i > 58) {
                    s.append(" cell").append(x.cell(k, i, k % 3));
                }
            }
        }
        return s.toString();
    }

    private static void refused(String what, Supplier<RopedBells> made, long due, int faultThen,
            ToLongFunction<RopedBells> call) {
        RopedBells x = made.get();
        String before = all(x);
        // Another FAULT than the one that is due: SIZE, or NULL where that is due.
        int faultBefore = faultThen == 4 ? 1 : 4;
        if (faultThen == 4) {
            x.put(3, 0, 0);
        } else {
            x.sheet(0, 0, -1);
        }
        c.due(what + ": fault() ahead", x.fault(), faultBefore);
        c.due(what, call.applyAsLong(x), due);
        c.due(what + ": fault()", x.fault(), faultThen < 0 ? faultBefore : faultThen);
        c.due(what + ": all is as it was", all(x).equals(before) ? 1 : 0, 1);
    }

    /** Of a call that names no FAULTS: fault() stays. */
    private static void plain(String what, Supplier<RopedBells> made, long due, ToLongFunction<RopedBells> call) {
        refused(what, made, due, -1, call);
    }

    /** Of a call that names FAULTS. */
    private static void named(String what, Supplier<RopedBells> made, long due, ToLongFunction<RopedBells> call) {
        refused(what, made, due, due <= NULL && due >= SIZE ? (int) (-10 - due) : 0, call);
    }

    private static void lost(String what, Supplier<RopedBells> made, int faultThen, ToLongFunction<RopedBells> call) {
        refused(what, made, LOST, faultThen, call);
    }

    private static void valley() {
        for (int k : new int[] {-1, 4, MIN, MAX}) {
            named("valley, UNKNOWN " + k, SOME, UNKNOWN, x -> x.valley(k, 2, 0, 23));
            named("valley, UNKNOWN ahead of all " + k, SOME, UNKNOWN, x -> x.valley(k, 3, -1, -1));
        }
        for (int lane : new int[] {-1, 3, MIN, MAX}) {
            named("valley, OUTSIDE lane " + lane, SOME, OUTSIDE, x -> x.valley(2, lane, 0, 23));
            named("valley, OUTSIDE ahead of FAULTS " + lane, SOME, OUTSIDE, x -> x.valley(2, lane, -1, -1));
            named("valley, OUTSIDE ahead of NULL " + lane, SOME, OUTSIDE, x -> x.valley(3, lane, 0, 0));
        }
        for (int lane = 0; lane < 3; lane++) {
            int of = lane;
            named("valley, NULL by lane " + lane, SOME, NULL, x -> x.valley(3, of, 0, 0));
            named("valley, NULL ahead of SIZE", SOME, NULL, x -> x.valley(3, of, 0, -1));
            named("valley, NULL ahead of INDEX", SOME, NULL, x -> x.valley(3, of, -1, 1));
            named("valley, NULL of a new object", NEW, NULL, x -> x.valley(of, of, 0, 0));
            named("valley, CAST of bytes or shorts", SOME, CAST, x -> x.valley(of == 0 ? 1 : 0, of == 0 ? 0 : of, 0, 1));
            named("valley, CAST of ints", SOME, of == 2 ? SIZE : CAST, x -> x.valley(2, of, 0, -1));
            named("valley, CAST ahead of INDEX", SOME, of == 2 ? INDEX : CAST, x -> x.valley(2, of, 61, 0));
        }
        for (int n : new int[] {-1, -2, MIN}) {
            named("valley, SIZE " + n, SOME, SIZE, x -> x.valley(2, 2, 0, n));
            named("valley, SIZE ahead of INDEX " + n, SOME, SIZE, x -> x.valley(2, 2, -1, n));
            named("valley, SIZE ahead of INDEX beyond " + n, SOME, SIZE, x -> x.valley(2, 2, 61, n));
        }
        int[][] cells = {{-1, 0}, {-1, 1}, {-1, 23}, {61, 0}, {60, 1}, {0, 61}, {37, 24}, {1, 60}, {MIN, 0}, {MIN, MAX},
            {MAX, 0}, {MAX, MAX}, {1, MAX}, {60, MAX}};
        for (int[] at : cells) {
            named("valley, INDEX " + at[0] + " " + at[1], SOME, INDEX, x -> x.valley(2, 2, at[0], at[1]));
        }
        named("valley, INDEX ahead of the FIRST FAULT", SOME, INDEX, x -> x.valley(1, 1, 0, 5));
        // -100 less the FIRST FAULT is no FAULT: fault() is 0, and all stays.
        named("valley, no TEXT, none taken", SOME, -100, x -> x.valley(2, 2, 0, 0));
        named("valley, no TEXT, none taken at the end", SOME, -100, x -> x.valley(2, 2, 60, 0));
        named("valley, no TEXT, the first code", SOME, -100, x -> x.valley(2, 2, 1, 22));
        named("valley, no TEXT, too short", SOME, -122, x -> x.valley(2, 2, 0, 22));
        named("valley, no TEXT, too long", SOME, -123, x -> x.valley(2, 2, 0, 24));
        named("valley, no TEXT, without a VALLEY", NO_VALLEY, -122, x -> x.valley(2, 2, 0, 22));
        named("valley, INDEX without a VALLEY", NO_VALLEY, INDEX, x -> x.valley(2, 2, 60, 1));
    }

    private static void tune() {
        for (int k : new int[] {-1, 4, MIN, MAX}) {
            named("tune, UNKNOWN SHEET " + k, SOME, UNKNOWN, x -> x.tune(k, 1, 2, 1));
            named("tune, UNKNOWN ahead of OUTSIDE " + k, SOME, UNKNOWN, x -> x.tune(k, 3, 2, 1));
            named("tune, UNKNOWN ahead of STATE " + k, NO_VALLEY, UNKNOWN, x -> x.tune(k, 1, 2, 1));
        }
        for (int lane : new int[] {-1, 3, MIN, MAX}) {
            named("tune, OUTSIDE lane " + lane, SOME, OUTSIDE, x -> x.tune(1, lane, 2, 1));
            named("tune, OUTSIDE ahead of STATE " + lane, NO_VALLEY, OUTSIDE, x -> x.tune(1, lane, 2, 1));
            named("tune, OUTSIDE ahead of NULL " + lane, SOME, OUTSIDE, x -> x.tune(3, lane, 2, 1));
        }
        named("tune, STATE", NO_VALLEY, STATE, x -> x.tune(1, 1, 2, 1));
        named("tune, STATE of a new object", NEW, STATE, x -> x.tune(0, 0, 0, 1));
        named("tune, STATE ahead of CAST", NO_VALLEY, STATE, x -> x.tune(1, 2, 2, 1));
        named("tune, STATE ahead of NULL", NO_VALLEY, STATE, x -> x.tune(3, 1, 2, 1));
        named("tune, STATE ahead of SIZE", NO_VALLEY, STATE, x -> x.tune(1, 1, 2, -1));
        named("tune, STATE ahead of INDEX", NO_VALLEY, STATE, x -> x.tune(1, 1, -1, 1));
        named("tune, STATE ahead of OUTSIDE n", NO_VALLEY, STATE, x -> x.tune(1, 1, 0, 0));
        named("tune, STATE ahead of UNKNOWN BELL", NO_VALLEY, STATE, x -> x.tune(1, 1, 1, 1));
        for (int lane = 0; lane < 3; lane++) {
            int of = lane;
            named("tune, NULL by lane " + lane, SOME, NULL, x -> x.tune(3, of, 0, 1));
            named("tune, NULL ahead of SIZE", SOME, NULL, x -> x.tune(3, of, 0, -1));
            named("tune, NULL ahead of INDEX", SOME, NULL, x -> x.tune(3, of, -1, 1));
            named("tune, NULL ahead of OUTSIDE n", SOME, NULL, x -> x.tune(3, of, 0, 0));
            named("tune, CAST of bytes or shorts", SOME, CAST, x -> x.tune(of == 0 ? 1 : 0, of == 0 ? 0 : of, 0, 1));
            named("tune, CAST of ints", SOME, of == 2 ? SIZE : CAST, x -> x.tune(2, of, 0, -1));
            named("tune, CAST ahead of INDEX", SOME, of == 2 ? INDEX : CAST, x -> x.tune(2, of, 61, 0));
        }
        named("tune, CAST ahead of OUTSIDE n", SOME, CAST, x -> x.tune(1, 2, 0, 0));
        named("tune, CAST ahead of UNKNOWN BELL", SOME, CAST, x -> x.tune(1, 2, 1, 1));
        for (int n : new int[] {-1, -2, MIN}) {
            named("tune, SIZE " + n, SOME, SIZE, x -> x.tune(1, 1, 0, n));
            named("tune, SIZE ahead of INDEX " + n, SOME, SIZE, x -> x.tune(1, 1, -1, n));
        }
        int[][] cells = {{-1, 0}, {-1, 1}, {5, 0}, {4, 1}, {0, 5}, {3, 2}, {MIN, 0}, {MIN, MAX}, {MAX, 0}, {MAX, MAX}, {1, MAX}};
        for (int[] at : cells) {
            named("tune, INDEX " + at[0] + " " + at[1], SOME, INDEX, x -> x.tune(1, 1, at[0], at[1]));
        }
        named("tune, INDEX ahead of OUTSIDE n, too many", SOME, INDEX, x -> x.tune(1, 1, 0, 9));
        named("tune, INDEX ahead of UNKNOWN BELL", SOME, INDEX, x -> x.tune(1, 1, 1, 4));
        named("tune, OUTSIDE n 0", SOME, OUTSIDE, x -> x.tune(1, 1, 2, 0));
        named("tune, OUTSIDE n 0 at the end", SOME, OUTSIDE, x -> x.tune(1, 1, 4, 0));
        named("tune, OUTSIDE n 9", SOME, OUTSIDE, x -> x.tune(2, 2, 40, 9));
        named("tune, OUTSIDE n 60 ahead of UNKNOWN BELL", SOME, OUTSIDE, x -> x.tune(2, 2, 0, 60));
        named("tune, UNKNOWN BELL below 0", SOME, UNKNOWN, x -> x.tune(1, 1, 1, 1));
        named("tune, UNKNOWN BELL far below 0", SOME, UNKNOWN, x -> x.tune(2, 2, 58, 2));
        named("tune, UNKNOWN BELL beyond", SOME, UNKNOWN, x -> x.tune(2, 2, 22, 1));
        named("tune, UNKNOWN BELL is the last of eight", SOME, UNKNOWN, x -> x.tune(2, 2, 52, 8));
        named("tune, UNKNOWN BELL is the first of four", SOME, UNKNOWN, x -> x.tune(2, 2, 22, 4));
        named("tune, all of eight are BELLS, not HEARD", SOME, -9, x -> x.tune(2, 2, 51, 8));
    }

    private static void bellsAndRopes() {
        for (int b : new int[] {-1, 3, 6, MIN, MAX}) {
            plain("ofBell, UNKNOWN " + b, SOME, UNKNOWN, x -> x.ofBell(b, 0));
            plain("ofBell, UNKNOWN ahead of OUTSIDE " + b, SOME, UNKNOWN, x -> x.ofBell(b, 4));
            plain("tie, UNKNOWN " + b, SOME, UNKNOWN, x -> x.tie(b, true));
            plain("tie, UNKNOWN, free " + b, SOME, UNKNOWN, x -> x.tie(b, false));
        }
        for (int r : new int[] {-1, 4, 8, MIN, MAX}) {
            plain("ofRope, UNKNOWN " + r, SOME, UNKNOWN, x -> x.ofRope(r, 0));
            plain("ofRope, UNKNOWN ahead of OUTSIDE " + r, SOME, UNKNOWN, x -> x.ofRope(r, 3));
        }
        for (int what : new int[] {-1, 4, MIN, MAX}) {
            plain("ofBell, OUTSIDE " + what, SOME, OUTSIDE, x -> x.ofBell(2, what));
            plain("ofBell, UNKNOWN without a VALLEY " + what, NO_VALLEY, UNKNOWN, x -> x.ofBell(0, what));
        }
        for (int what : new int[] {-1, 3, MIN, MAX}) {
            plain("ofRope, OUTSIDE " + what, SOME, OUTSIDE, x -> x.ofRope(3, what));
            plain("ofRope, UNKNOWN without a VALLEY " + what, NO_VALLEY, UNKNOWN, x -> x.ofRope(0, what));
        }
        plain("tie, UNKNOWN without a VALLEY", NO_VALLEY, UNKNOWN, x -> x.tie(0, true));
        plain("tie, it was TIED", SOME, 0, x -> x.tie(2, true));
        plain("tie, it was free", SOME, 0, x -> x.tie(0, false));
        for (int v : new int[] {-1, 6, MIN, MAX}) {
            plain("span, OUTSIDE " + v, SOME, OUTSIDE, x -> x.span(v));
            plain("span, OUTSIDE ahead of STATE " + v, NO_VALLEY, OUTSIDE, x -> x.span(v));
        }
        for (int v = 0; v <= 5; v++) {
            int to = v;
            plain("span, STATE " + v, NO_VALLEY, STATE, x -> x.span(to));
        }
        plain("span, as it was", SOME, 3, x -> x.span(3));
    }

    private static void pullsAndReadings() {
        for (int b : new int[] {-1, 3, MIN, MAX}) {
            plain("pull, UNKNOWN BELL " + b, SOME, UNKNOWN, x -> x.pull(b, 0));
            plain("pull, UNKNOWN ahead of OUTSIDE " + b, SOME, UNKNOWN, x -> x.pull(b, 100));
            plain("pull, UNKNOWN ahead of FULL " + b, MOST, UNKNOWN, x -> x.pull(b, 0));
            plain("reading, UNKNOWN BELL " + b, SOME, UNKNOWN, x -> x.reading(b, 0, true));
            plain("reading, UNKNOWN ahead of OUTSIDE " + b, SOME, UNKNOWN, x -> x.reading(b, 400, true));
            plain("reading, UNKNOWN ahead of FULL " + b, MOST, UNKNOWN, x -> x.reading(b, 0, false));
        }
        for (int minute : new int[] {-1, 100, 399, MIN, MAX}) {
            plain("pull, OUTSIDE minute " + minute, SOME, OUTSIDE, x -> x.pull(0, minute));
            plain("pull, OUTSIDE ahead of FULL " + minute, MOST, OUTSIDE, x -> x.pull(0, minute));
            plain("pull, UNKNOWN without a VALLEY " + minute, NO_VALLEY, UNKNOWN, x -> x.pull(0, minute));
        }
        for (int minute : new int[] {-1, 400, MIN, MAX}) {
            plain("reading, OUTSIDE minute " + minute, SOME, OUTSIDE, x -> x.reading(0, minute, true));
            plain("reading, OUTSIDE ahead of FULL " + minute, MOST, OUTSIDE, x -> x.reading(0, minute, false));
            plain("reading, UNKNOWN without a VALLEY " + minute, NO_VALLEY, UNKNOWN, x -> x.reading(0, minute, true));
        }
        plain("pull, FULL", MOST, FULL, x -> x.pull(0, 0));
        plain("pull, FULL at 99", MOST, FULL, x -> x.pull(2, 99));
        plain("reading, FULL", MOST, FULL, x -> x.reading(0, 0, true));
        plain("reading, FULL at 399", MOST, FULL, x -> x.reading(2, 399, false));
        for (int k : new int[] {-1, 3, MIN, MAX}) {
            plain("undo, OUTSIDE " + k, SOME, OUTSIDE, x -> x.undo(k));
            plain("back, OUTSIDE " + k, SOME, OUTSIDE, x -> x.back(k));
            plain("undo, OUTSIDE without a VALLEY " + k, NO_VALLEY, OUTSIDE, x -> x.undo(k));
            plain("back, OUTSIDE without a VALLEY " + k, NO_VALLEY, OUTSIDE, x -> x.back(k));
        }
        plain("undo, OUTSIDE, one more than six", MOST, OUTSIDE, x -> x.undo(7));
        plain("back, OUTSIDE, one more than six", MOST, OUTSIDE, x -> x.back(7));
        plain("undo, one of none", NO_VALLEY, OUTSIDE, x -> x.undo(1));
        plain("back, one of none", NO_VALLEY, OUTSIDE, x -> x.back(1));
        plain("undo, none of two", SOME, 2, x -> x.undo(0));
        plain("back, none of two", SOME, 2, x -> x.back(0));
        plain("undo, none of none", NO_VALLEY, 0, x -> x.undo(0));
        plain("back, none of none", NO_VALLEY, 0, x -> x.back(0));
    }

    private static void minutes() {
        for (int b : new int[] {-1, 3, MIN, MAX}) {
            plain("rings, UNKNOWN " + b, SOME, UNKNOWN, x -> x.rings(b));
            plain("ringsAt, UNKNOWN BELL " + b, SOME, UNKNOWN, x -> x.ringsAt(b, 0));
            plain("ringsAt, UNKNOWN of both " + b, SOME, UNKNOWN, x -> x.ringsAt(b, -1));
        }
        plain("rings, UNKNOWN without a VALLEY", NO_VALLEY, UNKNOWN, x -> x.rings(0));
        plain("ringsAt, UNKNOWN without a VALLEY", NO_VALLEY, UNKNOWN, x -> x.ringsAt(0, 0));
        plain("ringsAt, UNKNOWN k -1", SOME, UNKNOWN, x -> x.ringsAt(0, -1));
        plain("ringsAt, UNKNOWN k far below 0", SOME, UNKNOWN, x -> x.ringsAt(0, MIN));
        plain("ringsAt, UNKNOWN k of one that never rings", SOME, UNKNOWN, x -> x.ringsAt(2, -1));
        for (int minute : new int[] {-1, 400, MIN, MAX}) {
            plain("peal, OUTSIDE " + minute, SOME, OUTSIDE, x -> x.peal(minute));
            plain("peal, OUTSIDE ahead of STATE " + minute, NO_VALLEY, OUTSIDE, x -> x.peal(minute));
        }
        plain("peal, STATE at 0", NO_VALLEY, STATE, x -> x.peal(0));
        plain("peal, STATE at 399", NO_VALLEY, STATE, x -> x.peal(399));
        plain("stops, STATE", NO_VALLEY, STATE, RopedBells::stops);
    }

    private static void asks() {
        for (int set : new int[] {8, 9, 16, 32, 64, 1 << 30, MIN, MAX, -1, -8, MIN + 1}) {
            plain("fewest, OUTSIDE " + set, SOME, OUTSIDE, x -> x.fewest(set));
            plain("fewest, OUTSIDE ahead of STATE " + set, NO_VALLEY, OUTSIDE, x -> x.fewest(set));
        }
        plain("fewest, STATE", NO_VALLEY, STATE, x -> x.fewest(0));
        for (int t : new int[] {-1, 399, MIN, MAX}) {
            plain("still, OUTSIDE " + t, SOME, OUTSIDE, x -> x.still(t));
            plain("still, OUTSIDE ahead of STATE " + t, NO_VALLEY, OUTSIDE, x -> x.still(t));
        }
        plain("still, STATE at 0", NO_VALLEY, STATE, x -> x.still(0));
        plain("still, STATE at 398", NO_VALLEY, STATE, x -> x.still(398));
        for (int what : new int[] {-1, 2, MIN, MAX}) {
            plain("hung, OUTSIDE " + what, SOME, OUTSIDE, x -> x.hung(what));
            plain("hung, OUTSIDE ahead of STATE " + what, NO_VALLEY, OUTSIDE, x -> x.hung(what));
            lost("sneezes, OUTSIDE " + what, SOME, -1, x -> x.sneezes(what));
            lost("sneezes, OUTSIDE without a VALLEY " + what, NO_VALLEY, -1, x -> x.sneezes(what));
        }
        for (int what = 0; what < 2; what++) {
            int of = what;
            plain("hung, STATE " + what, NO_VALLEY, STATE, x -> x.hung(of));
            lost("sneezes, STATE " + what, NO_VALLEY, -1, x -> x.sneezes(of));
        }
        plain("cut, STATE", NO_VALLEY, STATE, RopedBells::cut);
        plain("first, STATE", NO_VALLEY, STATE, RopedBells::first);
        plain("gone, STATE", NO_VALLEY, STATE, RopedBells::gone);
        for (int what : new int[] {-1, 5, MIN, MAX}) {
            plain("many, OUTSIDE " + what, SOME, OUTSIDE, x -> x.many(what));
            plain("many, OUTSIDE without a VALLEY " + what, NO_VALLEY, OUTSIDE, x -> x.many(what));
        }
        // What is only asked changes nothing, either.
        plain("fewest changes nothing", SOME, 1, x -> x.fewest(3));
        plain("fewest of a TIED one changes nothing", SOME, -9, x -> x.fewest(4));
        plain("still changes nothing", SOME, 1, x -> x.still(0));
        plain("hung changes nothing", SOME, -9, x -> x.hung(0));
        plain("cut changes nothing", SOME, 0, x -> x.cut());
    }

    private static void sheetAndLose() {
        for (int k : new int[] {-1, 4, MIN, MAX}) {
            named("sheet, UNKNOWN " + k, SOME, UNKNOWN, x -> x.sheet(k, 0, 1));
            named("sheet, UNKNOWN ahead of OUTSIDE lane " + k, SOME, UNKNOWN, x -> x.sheet(k, 3, 1));
            named("sheet, UNKNOWN ahead of OUTSIDE n " + k, SOME, UNKNOWN, x -> x.sheet(k, 0, 61));
            named("sheet, UNKNOWN ahead of SIZE " + k, SOME, UNKNOWN, x -> x.sheet(k, 0, -1));
            plain("lose, UNKNOWN " + k, SOME, UNKNOWN, x -> x.lose(k));
        }
        for (int k = 0; k < 4; k++) {
            int of = k;
            for (int lane : new int[] {-1, 3, MIN, MAX}) {
                named("sheet, OUTSIDE lane " + lane, SOME, OUTSIDE, x -> x.sheet(of, lane, 1));
                named("sheet, OUTSIDE lane ahead of SIZE " + lane, SOME, OUTSIDE, x -> x.sheet(of, lane, -1));
            }
            named("sheet, OUTSIDE n 61", SOME, OUTSIDE, x -> x.sheet(of, 0, 61));
            named("sheet, OUTSIDE n MAX", SOME, OUTSIDE, x -> x.sheet(of, 2, MAX));
            named("sheet, SIZE -1", SOME, SIZE, x -> x.sheet(of, 0, -1));
            named("sheet, SIZE MIN", SOME, SIZE, x -> x.sheet(of, 2, MIN));
            plain("lose, it had nothing", NEW, 0, x -> x.lose(of));
        }
    }

    private static void putAndCell() {
        for (int k : new int[] {-1, 4, MIN, MAX}) {
            named("put, UNKNOWN " + k, SOME, UNKNOWN, x -> x.put(k, 0, 9));
            named("put, UNKNOWN ahead of INDEX " + k, SOME, UNKNOWN, x -> x.put(k, -1, 9));
            lost("cell, UNKNOWN " + k, SOME, 0, x -> x.cell(k, 0, 0));
            lost("cell, UNKNOWN and INDEX " + k, SOME, 0, x -> x.cell(k, -1, 3));
        }
        named("put, NULL", SOME, NULL, x -> x.put(3, 0, 9));
        named("put, NULL ahead of INDEX", SOME, NULL, x -> x.put(3, -1, 9));
        int[] sizes = {3, 4, 60};
        for (int k = 0; k < 3; k++) {
            int of = k;
            for (int i : new int[] {-1, sizes[k], MIN, MAX}) {
                named("put, INDEX " + i, SOME, INDEX, x -> x.put(of, i, 9));
                lost("cell, INDEX " + i, SOME, 3, x -> x.cell(of, i, of));
                lost("cell, CAST ahead of INDEX " + i, SOME, 2, x -> x.cell(of, i, (of + 1) % 3));
                lost("cell, CAST of the other " + i, SOME, 2, x -> x.cell(of, 0, (of + 2) % 3));
                lost("cell, OUTSIDE and INDEX " + i, SOME, 0, x -> x.cell(of, i, 3));
            }
            named("put, NULL of a new object", NEW, NULL, x -> x.put(of, 0, 9));
            lost("cell, NULL of a new object", NEW, 1, x -> x.cell(of, 0, of));
            lost("cell, NULL by lane", SOME, 1, x -> x.cell(3, 0, of));
            lost("cell, NULL ahead of INDEX", SOME, 1, x -> x.cell(3, -1, of));
        }
        for (int lane : new int[] {-1, 3, MIN, MAX}) {
            lost("cell, OUTSIDE lane " + lane, SOME, 0, x -> x.cell(1, 0, lane));
            lost("cell, OUTSIDE and NULL " + lane, SOME, 0, x -> x.cell(3, 0, lane));
        }
    }

    private static void copyUnknownAndNull() {
        for (int k : new int[] {-1, 4, MIN, MAX}) {
            named("copy, UNKNOWN " + k, SOME, UNKNOWN, x -> x.copy(k, 0, 0, 0, 1));
            named("copy, UNKNOWN other " + k, SOME, UNKNOWN, x -> x.copy(0, 0, k, 0, 1));
            named("copy, UNKNOWN ahead of NULL " + k, SOME, UNKNOWN, x -> x.copy(k, 0, 3, 0, 1));
            named("copy, UNKNOWN other ahead of NULL " + k, SOME, UNKNOWN, x -> x.copy(3, 0, k, 0, 1));
            named("copy, UNKNOWN ahead of INDEX " + k, SOME, UNKNOWN, x -> x.copy(0, -1, k, -1, -1));
        }
        for (int k = 0; k < 3; k++) {
            int of = k;
            named("copy, NULL the first", SOME, NULL, x -> x.copy(3, 0, of, 0, 1));
            named("copy, NULL the other", SOME, NULL, x -> x.copy(of, 0, 3, 0, 1));
            named("copy, NULL of none", SOME, NULL, x -> x.copy(of, 0, 3, 0, 0));
            named("copy, NULL ahead of INDEX", SOME, NULL, x -> x.copy(of, -1, 3, -1, -1));
            named("copy, NULL of a new object", NEW, NULL, x -> x.copy(of, 0, of + 1, 0, 0));
        }
        named("copy, NULL of both", SOME, NULL, x -> x.copy(3, 0, 3, 0, 0));
    }

    private static void copyCastAndIndex() {
        for (int k = 0; k < 3; k++) {
            int of = k;
            int other = (k + 1) % 3;
            int size = new int[] {3, 4, 60}[k];
            named("copy, CAST", SOME, CAST, x -> x.copy(of, 0, other, 0, 1));
            named("copy, CAST the other way", SOME, CAST, x -> x.copy(other, 0, of, 0, 1));
            named("copy, CAST of none", SOME, CAST, x -> x.copy(of, 0, other, 0, 0));
            named("copy, CAST ahead of INDEX", SOME, CAST, x -> x.copy(of, -1, other, -1, -1));
            int[][] wrong = {{-1, 0, 1}, {0, -1, 1}, {0, 0, -1}, {-1, 0, 0}, {0, -1, 0}, {size + 1, 0, 0}, {0, size + 1, 0},
                {size, 0, 1}, {0, size, 1}, {0, 0, size + 1}, {1, 0, size}, {0, 1, size}, {1, 0, MAX}, {0, 1, MAX},
                {MAX, 0, 1}, {0, MAX, 1}, {MAX, 0, MAX}, {0, MAX, MAX}, {MIN, 0, 1}, {0, MIN, 1}, {0, 0, MIN},
                {MIN, MIN, MIN}, {MAX, MAX, MAX}, {-1, -1, 2}, {size, size, -1}};
            for (int[] at : wrong) {
                named("copy, INDEX " + at[0] + " " + at[1] + " " + at[2] + " of " + size, SOME, INDEX,
                    x -> x.copy(of, at[0], of, at[1], at[2]));
            }
        }
    }

    private static void parts() {
        for (int b : new int[] {-1, 3, MIN, MAX}) {
            plain("tell, UNKNOWN " + b, SOME, UNKNOWN, x -> x.tell(b));
            plain("hail, UNKNOWN " + b, SOME, UNKNOWN, x -> x.hail(b));
            named("as, UNKNOWN " + b, SOME, UNKNOWN, x -> x.as(b, 0));
            named("as, UNKNOWN ahead of OUTSIDE " + b, SOME, UNKNOWN, x -> x.as(b, 3));
        }
        plain("tell, UNKNOWN without a VALLEY", NO_VALLEY, UNKNOWN, x -> x.tell(0));
        plain("hail, UNKNOWN without a VALLEY", NO_VALLEY, UNKNOWN, x -> x.hail(0));
        named("as, UNKNOWN without a VALLEY", NO_VALLEY, UNKNOWN, x -> x.as(0, 0));
        for (int b = 0; b < 3; b++) {
            int of = b;
            for (int kind : new int[] {-1, 3, MIN, MAX}) {
                named("as, OUTSIDE " + kind, SOME, OUTSIDE, x -> x.as(of, kind));
            }
            for (int kind = b + 1; kind < 3; kind++) {
                int to = kind;
                named("as, CAST of " + b + " to " + kind, SOME, CAST, x -> x.as(of, to));
            }
            for (int kind = 0; kind <= b; kind++) {
                int to = kind;
                named("as, of " + b + " to " + kind, SOME, 1, x -> x.as(of, to));
            }
        }
    }
}
