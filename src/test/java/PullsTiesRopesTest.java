/** Promises 13 to 16: the fewest pulls and ties, one rope more, ropes that are needed. */
public final class PullsTiesRopesTest {
    private static final Check c = new Check("PullsTiesRopesTest");
    // Bells 0 and 1 swing each other every 18 minutes, bell 2 itself every 7: with SPAN 0 bell 3
    // rings at 46 when 1 and 2 are pulled at 0, and only at 109 when 0 and 2 are.
    private static final String LATE = "vb1b1b1b2;019;109;227;031;234";

    public static void main(String[] args) {
        promise13Fewest();
        promise13Minutes();
        promise13Refusals();
        promise14Still();
        promise14Edges();
        promise15Hung();
        promise15Edges();
        promise16Cut();
        c.end();
    }

    private static void promise13Fewest() {
        RopedBells x = Check.with("vb1b1b1b1;011;121");
        x.pull(3, 0);
        c.due("of none", x.fewest(0), 0);
        c.due("the least of those by which it rings", x.fewest(4), 1);
        c.due("one for three", x.fewest(7), 1);
        c.due("pulls do not matter", x.fewest(8), 8);
        c.due("two for four", x.fewest(15), 9);
        c.due("pulls stay", x.many(2), 1);
        c.due("rings stay", x.rings(3) * 10 + x.rings(0), 10);
        x.tie(1, true);
        c.due("behind a tied one", x.fewest(5), 5);
        c.due("a tied one", x.fewest(2), -9);
        c.due("a tied one among others", x.fewest(3), -9);
        c.due("of none, with a tied one", x.fewest(0), 0);
        x = Check.with("vb3g3d3b2;301;311;321");
        c.due("as often as it needs: b3", x.fewest(1), 1);
        c.due("as often as it needs: g3", x.fewest(2), 2);
        c.due("as often as it needs: d3", x.fewest(4), 4);
        c.due("all", x.fewest(15), 15);
        x = Check.with("vb1b1b2;022;122");
        c.due("one bell ahead of two that are less", x.fewest(4), 4);
        c.due("two of three", x.fewest(7), 3);
    }

    private static void promise13Minutes() {
        RopedBells x = Check.with(LATE);
        x.span(0);
        c.due("in MINUTES 0 .. 99", x.fewest(15), 6);
    }

    private static void promise13Refusals() {
        RopedBells x = Check.with("vb1b1b1");
        c.due("a bit of no bell", x.fewest(8), -2);
        c.due("one of no bell among others", x.fewest(9), -2);
        c.due("below 0", x.fewest(-1), -2);
        c.due("the highest bit", x.fewest(Integer.MIN_VALUE), -2);
        RopedBells none = new RopedBells();
        c.due("no valley, none", none.fewest(0), -3);
        c.due("no valley, a bit", none.fewest(1), -2);
    }

    private static void promise14Still() {
        RopedBells x = Check.with("vb1b1b1;001;111");
        c.due("none pulled", x.still(0), 0);
        x.pull(0, 5);
        c.due("one goes on", x.still(398), 1);
        x.pull(1, 7);
        c.due("two go on", x.still(50), 3);
        c.due("nothing is tied by asking", x.ofBell(0, 3) + x.ofBell(1, 3), 0);
        x.pull(2, 51);
        c.due("all of them", x.still(50), 7);
        x.undo(1);
        x.tie(0, true);
        c.due("more than are", x.still(50), 2);
        x.tie(1, true);
        c.due("none more", x.still(0), 0);
        x = Check.with("vb1b1b1;021;121;202");
        x.pull(0, 0);
        x.pull(1, 4);
        c.due("one that is greater than two others", x.still(4), 4);
        c.due("of several ones the least", x.still(8), 1);
        x = Check.with("vb1b1;011;101");
        x.pull(1, 3);
        c.due("of several the least", x.still(4), 1);
        c.due("above t only", x.still(3), 1);
        c.due("at t, too", x.still(2), 2);
    }

    private static void promise14Edges() {
        RopedBells x = Check.with("vb1b1;009");
        x.pull(0, 0);
        c.due("the last is at 396", x.still(396), 0);
        c.due("the last is above 395", x.still(395), 1);
        c.due("t 0", x.still(0), 1);
        c.due("t -1", x.still(-1), -2);
        c.due("t 399", x.still(399), -2);
        c.due("t 398", x.still(398), 0);
        x.undo(1);
        x.pull(1, 1);
        c.due("at 1, t 0", x.still(0), 2);
        c.due("at 1, t 1", x.still(1), 0);
        RopedBells none = new RopedBells();
        c.due("no valley", none.still(0), -3);
        c.due("OUTSIDE ahead of STATE", none.still(399), -2);
    }

    private static void hung(String text, int span, int pulled, int rope, int bells) {
        RopedBells x = Check.with(text);
        x.span(span);
        if (pulled >= 0) {
            x.pull(pulled, 0);
        }
        c.due("hung(0) of " + text, x.hung(0), rope);
        c.due("hung(1) of " + text, x.hung(1), bells);
    }

    private static void promise15Hung() {
        hung("vb1b1", 2, 0, 11, 2);
        hung("vb1b1", 2, 1, 101, 2);
        hung("vb1b1", 2, -1, -9, 0);
        hung("vb1b2", 2, 0, -9, 1);
        hung("vb1b2b1", 2, 0, 21, 2);
        hung("vb1b1b1;121", 2, 0, 11, 3);
        hung("vb1b2;012", 0, 0, 12, 2);
        hung("vb1b2;013", 0, 0, 13, 2);
        hung("vb1b2;014", 0, 0, -9, 1);
        hung("vb1b2;012", 2, 0, 1, 2);
        hung("vb1b1b1", 2, 2, 201, 2);
        hung("vb1b1;011", 2, 0, -9, 2);
        hung("vb1b1b1b1;015;015;015;015;125;125;125;125", 2, 0, 31, 4);
        RopedBells x = Check.with("vb1b1b1");
        x.pull(0, 0);
        x.tie(1, true);
        c.due("not to a tied one", x.hung(0), 21);
        c.due("ropes stay", x.many(1), 0);
        c.due("rings stay", x.rings(2), 0);
    }

    private static void promise15Edges() {
        RopedBells x = Check.with(LATE);
        x.span(0);
        x.pull(0, 0);
        x.pull(2, 0);
        c.due("what rings at 109 does not ring now", x.hung(0), 1);
        c.due("how many ring then", x.hung(1), 4);
        x = Check.with("vb1b1");
        x.pull(0, 99);
        c.due("at 99 and no more", x.hung(0), -9);
        c.due("how many now", x.hung(1), 1);
        x.undo(1);
        x.pull(0, 98);
        c.due("at 98 and 99", x.hung(0), 11);
        c.due("what 2", x.hung(2), -2);
        c.due("what -1", x.hung(-1), -2);
        RopedBells none = new RopedBells();
        c.due("no valley", none.hung(1), -3);
        c.due("OUTSIDE ahead of STATE", none.hung(2), -2);
    }

    private static int cut(String text, int... pulled) {
        RopedBells x = Check.with(text);
        for (int b : pulled) {
            x.pull(b, 0);
        }
        return x.cut();
    }

    private static void promise16Cut() {
        c.due("the only one", cut("vb1b1;012", 0), 1);
        c.due("one of two is enough", cut("vb1b1;012;013", 0), 0);
        c.due("both are needed", cut("vb1b2;012;013", 0), 3);
        c.due("none pulled", cut("vb1b2;012;013"), 0);
        c.due("no ropes", cut("vb1b1", 0), 0);
        c.due("a chain and a way back", cut("vb1b1b1;011;121;201;021", 0), 1);
        c.due("the eighth", cut("vb1b1b1;001;001;001;001;001;001;001;011", 0), 128);
        RopedBells x = Check.with("vb1b1b1;001;015");
        x.pull(0, 94);
        c.due("at 99", x.cut(), 2);
        c.due("the rope stays", x.many(1), 2);
        c.due("rings stay", x.rings(1), 301);
        x.undo(1);
        x.pull(0, 95);
        c.due("at 100", x.cut(), 0);
        x.tie(0, true);
        c.due("tied", x.cut(), 0);
        c.due("no valley", new RopedBells().cut(), -3);
    }
}
