/** Promises 17 to 22: READINGS, FIRST, GONE, SNEEZES, TUNES. */
public final class HeardTest {
    private static final Check c = new Check("HeardTest");
    private static final int MAX = Integer.MAX_VALUE, MIN = Integer.MIN_VALUE;
    // As in PullsTiesRopesTest: by bells 0 and 2 bell 3 rings at 109 only, by 1 and 2 at 46.
    private static final String LATE = "vb1b1b1b2;019;109;227;031;234";

    public static void main(String[] args) {
        promise17Reading();
        promise18Back();
        promise19First();
        promise20Gone();
        promise21Sneezes();
        promise21Ties();
        promise22Tune();
        promise22Faults();
        promise22Order();
        c.end();
    }

    private static void promise17Reading() {
        RopedBells x = Check.with("vb1b1");
        c.due("no bell 2, minute 400", x.reading(2, 400, true), -1);
        c.due("no bell -1", x.reading(-1, 0, false), -1);
        c.due("minute 400", x.reading(1, 400, true), -2);
        c.due("minute -1", x.reading(1, -1, false), -2);
        c.due("none so far", x.many(3), 0);
        for (int k = 0; k < 6; k++) {
            c.due("reading " + k, x.reading(k % 2, k == 0 ? 0 : 399, k > 2), k);
        }
        c.due("seventh", x.reading(0, 0, true), -4);
        c.due("UNKNOWN ahead of FULL", x.reading(2, 0, true), -1);
        c.due("OUTSIDE ahead of FULL", x.reading(0, 400, true), -2);
        c.due("six", x.many(3), 6);
        c.due("no valley", new RopedBells().reading(0, 0, true), -1);
    }

    private static void promise18Back() {
        RopedBells x = Check.with("vb1b1");
        x.reading(0, 0, true);
        x.reading(0, 0, true);
        x.reading(1, 0, true);
        c.due("none is so", x.first(), 0);
        c.due("none taken", x.back(0), 3);
        c.due("more than there are", x.back(4), -2);
        c.due("below 0", x.back(-1), -2);
        c.due("the last", x.back(1), 2);
        c.due("the first two stay", x.first(), 1);
        c.due("numbered behind", x.reading(1, 1, false), 2);
        c.due("all", x.back(3), 0);
        c.due("all are so", x.first(), 3);
        c.due("one of none", x.back(1), -2);
        c.due("pulls are not taken", x.pull(0, 0) + x.back(0) + x.many(2), 1);
        c.due("no valley", new RopedBells().back(1), -2);
    }

    private static void promise19First() {
        RopedBells x = Check.with("vb1g2d3b1;039;139;239");
        c.due("no readings", x.first(), 15);
        x.reading(3, 9, true);
        c.due("three swing bell 3", x.first(), 7);
        x.reading(1, 0, true);
        c.due("the great one, pulled as often as it needs", x.first(), 2);
        x.back(1);
        x.reading(2, 0, true);
        c.due("the deaf one", x.first(), 4);
        x.tie(2, true);
        c.due("tied", x.first(), 0);
        x.back(2);
        x.reading(3, 9, false);
        c.due("a tied one makes nothing ring", x.first(), 12);
        x.reading(3, 0, true);
        x.pull(0, 0);
        c.due("in place of all pulls", x.first(), 8);
        c.due("the pull stays", x.rings(0), 1);
        x = Check.with("vb1b1;009");
        x.reading(0, 396, true);
        c.due("up to minute 396", x.first(), 1);
        x.reading(0, 396, false);
        c.due("both can't be", x.first(), 0);
        c.due("no valley", new RopedBells().first(), -3);
    }

    private static void promise20Gone() {
        RopedBells x = Check.with("vb1b1b1;011;012;021");
        c.due("no readings, no pulls", x.gone(), 7);
        x.pull(0, 0);
        c.due("no readings", x.gone(), 7);
        x.reading(1, 1, false);
        c.due("it did not ring at 1", x.gone(), 1);
        x.reading(1, 2, true);
        c.due("it rang at 2", x.gone(), 1);
        x.reading(2, 1, false);
        c.due("two ropes would have to be gone", x.gone(), 0);
        x.back(3);
        x.reading(1, 1, true);
        c.due("any but the one", x.gone(), 6);
        c.due("ropes stay", x.many(1), 3);
        c.due("rings stay", x.rings(1), 2);
        x.back(1);
        x.reading(0, 399, false);
        c.due("by the pulls", x.gone(), 7);
        c.due("no ropes", Check.with("vb1b1").gone(), 0);
        x = Check.with("vb1b1;001");
        x.pull(0, 5);
        x.reading(0, 399, false);
        c.due("minute 399", x.gone(), 1);
        x = Check.with("vb1b1;001;015");
        x.pull(0, 5);
        x.reading(0, 399, true);
        c.due("it rang at 399", x.gone(), 2);
        c.due("no valley", new RopedBells().gone(), -3);
    }

    private static void share(String what, RopedBells x, long upper, long lower) {
        c.due(what + ": upper", x.sneezes(0), upper);
        c.due(what + ": lower", x.sneezes(1), lower);
    }

    private static void promise21Sneezes() {
        share("each by itself", Check.with("vb1g2d3b2b1b1"), 1, 64);
        share("one for all", Check.with("vb1g1;011;011"), 1, 2);
        share("one for another", Check.with("vb1b1;011"), 1, 2);
        share("any", Check.with("vb1b1;011;101"), 3, 4);
        share("two of three", Check.with("vb1b1b1;011;101"), 3, 8);
        share("a ring of six", Check.with("vb1b1b1b1b1b1;011;121;231;341;451;501"), 63, 64);
        RopedBells x = Check.with(LATE);
        x.span(0);
        x.pull(0, 0);
        // 2 and 3 with 0, with 1, with both; 2 with 1, with both; 2 with 0 alone comes too late.
        share("in MINUTES 0 .. 99", x, 5, 16);
        c.due("pulls stay", x.many(2), 1);
        c.due("which 2", x.sneezes(2), RopedBells.LOST);
        c.due("which -1", x.sneezes(-1), RopedBells.LOST);
        c.due("no valley", new RopedBells().sneezes(0), RopedBells.LOST);
        c.due("no valley, which 2", new RopedBells().sneezes(2), RopedBells.LOST);
    }

    private static void promise21Ties() {
        RopedBells x = Check.with("vb1b1b1;011;121");
        share("a chain", x, 1, 2);
        x.tie(0, true);
        share("the first is tied", x, 1, 2);
        x.tie(1, true);
        share("the middle, too", x, 1, 2);
        x.tie(2, true);
        share("all are tied", x, 1, 1);
        x.tie(0, false);
        share("the last two", x, 1, 2);
        x.tie(2, false);
        share("the middle alone", x, 1, 4);
    }

    private static void promise22Tune() {
        RopedBells x = Check.with("vb1b1b1;012;023;201");
        x.pull(0, 1);
        // 0 at 1, 5, 9 .., 1 at 3, 7 .., 2 at 4, 8 ..
        c.due("0", Check.tune(x, 0), 1);
        c.due("0 1", Check.tune(x, 0, 1), 3);
        c.due("0 2", Check.tune(x, 0, 2), 4);
        c.due("0 0", Check.tune(x, 0, 0), 5);
        c.due("1 0 1", Check.tune(x, 1, 0, 1), 7);
        c.due("2 1 0", Check.tune(x, 2, 1, 0), 9);
        c.due("eight", Check.tune(x, 0, 1, 2, 0, 1, 2, 0, 1), 11);
        c.due("eight of 0", Check.tune(x, 0, 0, 0, 0, 0, 0, 0, 0), 29);
        x.undo(1);
        c.due("none rings", Check.tune(x, 0), -9);
        x = Check.with("vb1b1;019");
        x.pull(0, 0);
        x.pull(0, 99);
        x.pull(1, 0);
        c.due("not in one minute", Check.tune(x, 0, 1), 9);
        c.due("up to 108", Check.tune(x, 0, 0, 1), 108);
        c.due("no more", Check.tune(x, 1, 1, 1, 1), -9);
        x.tie(0, true);
        c.due("tied", Check.tune(x, 0), -9);
        x = Check.with("vb1b1;009");
        x.pull(0, 0);
        x.pull(1, 95);
        c.due("behind another", Check.tune(x, 1, 0, 0, 0, 0, 0, 0, 0), 153);
        x = Check.with("vb1b1;001;119");
        x.pull(0, 98);
        x.pull(1, 84);
        c.due("in long steps", Check.tune(x, 0, 1, 1, 1, 1, 1, 1, 1), 156);
        x = Check.with("vb1b1b1b1b1b1;019;129;239;349;459;509");
        x.pull(0, 21);
        c.due("at 399", Check.tune(x, 0, 0, 0, 0, 0, 0, 0, 0), 399);
        x.undo(1);
        x.pull(0, 22);
        c.due("not at 400", Check.tune(x, 0, 0, 0, 0, 0, 0, 0, 0), -9);
    }

    private static void promise22Faults() {
        RopedBells x = Check.with("vb1b1");
        x.pull(0, 7);
        for (int lane = 0; lane < 3; lane++) {
            x.sheet(1, lane, 4);
            x.put(1, 2, 1);
            x.put(1, 3, 2);
            c.due("cells of lane " + lane, x.tune(1, lane, 0, 1), 7);
            c.due("from i on", x.tune(1, lane, 2, 1), -9);
            c.due("no bell 2", x.tune(1, lane, 3, 1), -1);
            c.due("no bell 2 at the end", x.tune(1, lane, 0, 4), -1);
            x.put(1, 0, -1);
            c.due("no bell -1", x.tune(1, lane, 0, 3), -1);
            c.due("fault() when refused", x.fault(), 0);
        }
        x.sheet(1, 2, 9);
        c.due("nine notes", x.tune(1, 2, 0, 9), -2);
        c.due("no notes", x.tune(1, 2, 9, 0), -2);
        c.due("SIZE", x.tune(1, 2, 0, -1), -14);
        c.due("fault() SIZE", x.fault(), 4);
        c.due("INDEX beyond", x.tune(1, 2, 0, 10), -13);
        c.due("fault() INDEX", x.fault(), 3);
        c.due("INDEX below", x.tune(1, 2, -1, 1), -13);
        c.due("INDEX, none taken", x.tune(1, 2, 10, 0), -13);
        c.due("INDEX wraps", x.tune(1, 2, 2, MAX), -13);
        c.due("INDEX far below", x.tune(1, 2, MIN, 3), -13);
        c.due("eight notes", x.tune(1, 2, 1, 8), -9);
        c.due("fault() of none", x.fault(), 0);
    }

    private static void promise22Order() {
        RopedBells none = new RopedBells();
        none.sheet(1, 1, 3);
        c.due("UNKNOWN ahead of all", none.tune(4, 3, -1, -1), -1);
        c.due("OUTSIDE ahead of STATE", none.tune(1, 3, -1, -1), -2);
        c.due("STATE ahead of CAST", none.tune(1, 0, -1, -1), -3);
        c.due("STATE ahead of NULL", none.tune(0, 0, -1, -1), -3);
        c.due("fault() when refused", none.fault(), 0);
        RopedBells x = Check.with("vb1b1");
        x.sheet(1, 1, 3);
        x.put(1, 0, 9);
        c.due("no sheet -1", x.tune(-1, 0, 0, 1), -1);
        c.due("lane -1", x.tune(1, -1, 0, 1), -2);
        c.due("NULL ahead of SIZE", x.tune(2, 1, -1, -1), -11);
        c.due("fault() NULL", x.fault(), 1);
        c.due("CAST ahead of SIZE", x.tune(1, 2, -1, -1), -12);
        c.due("fault() CAST", x.fault(), 2);
        c.due("SIZE ahead of INDEX", x.tune(1, 1, -1, -1), -14);
        c.due("INDEX ahead of OUTSIDE", x.tune(1, 1, 4, 0), -13);
        c.due("INDEX ahead of UNKNOWN", x.tune(1, 1, 0, 4), -13);
        x.sheet(1, 1, 9);
        x.put(1, 0, 9);
        c.due("OUTSIDE ahead of UNKNOWN", x.tune(1, 1, 0, 9), -2);
    }
}
