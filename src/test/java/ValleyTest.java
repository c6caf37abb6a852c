/** Promises 2 to 8: the text, bells, ropes, ties, SPAN, PULLS. */
public final class ValleyTest {
    private static final Check c = new Check("ValleyTest");
    private static final String EIGHT = ";001;119;011;102;123;214;205;026";
    private static final int MAX = Integer.MAX_VALUE, MIN = Integer.MIN_VALUE;

    public static void main(String[] args) {
        promise2Taken();
        promise2FirstFault();
        promise2Lanes();
        promise2Refusals();
        promise2Anew();
        promise3OfBell();
        promise4OfRope();
        promise5Tie();
        promise6Span();
        promise7Pull();
        promise8Undo();
        c.end();
    }

    private static void text(String text, int want) {
        RopedBells x = new RopedBells();
        c.due("valley by '" + text + "'", Check.take(x, text), want);
        c.due("fault() behind '" + text + "'", x.fault(), 0);
        c.due("many(0) behind '" + text + "'", x.many(0), Math.max(want, 0));
    }

    private static void promise2Taken() {
        text("vb1b1", 2);
        text("vb1g2d3", 3);
        text("vd3d3d3d3d3d3", 6);
        text("vb1b1;019", 2);
        text("vb1b1;001;119", 2);
        text("vb1g2d3" + EIGHT, 3);
        text("vb1g2d3b1b2b3" + ";551;459;541;011;101;231;321;451", 6);
    }

    private static void promise2FirstFault() {
        text("", -100);
        text("b", -100);
        text("Vb1b1", -100);
        text("v", -101);
        text("vv", -101);
        text("v;", -101);
        text("v1", -101);
        text("va1b1", -101);
        text("vb", -102);
        text("vb0", -102);
        text("vb4", -102);
        text("vbb", -102);
        text("vb1", -103);
        text("vb1;", -103);
        text("vb1v", -103);
        text("vb11", -103);
        text("vb1c1", -103);
        text("vb1d", -104);
        text("vb1d/", -104);
        text("vb1d:", -104);
        text("vb1b1v", -105);
        text("vb1b11", -105);
        text("vb1b1 ", -105);
        text("vb1b1;", -106);
        text("vb1b1;2", -106);
        text("vb1b1;/", -106);
        text("vb1b1;;", -106);
        text("vb1b1;0", -107);
        text("vb1b1;02", -107);
        text("vb1b1;0;", -107);
        text("vb1b1;01", -108);
        text("vb1b1;010", -108);
        text("vb1b1;01:", -108);
        text("vb1b1;01b", -108);
        text("vb1b1;019b1", -109);
        text("vb1b1;0199", -109);
        text("vb1b1;019;", -110);
        text("vb1b1b1;22", -110);
        text("vb1b1b1;32", -108);
        text("vb1b1b1b1b1b1b", -113);
        text("vb1b1b1b1b1b11", -113);
        text("vb1b1b1b1b1b1;60", -114);
        text("vb1b1b1b1b1b1;559;56", -119);
        text("vb1g2d3" + EIGHT + ";", -139);
        text("vb1g2d3" + EIGHT + ";011", -139);
        text("vb1g2d3" + EIGHT + "b", -139);
        text("vb1g2d3" + EIGHT + "1", -139);
    }

    private static void promise2Lanes() {
        int[] codes = {118 + 65536, 98, 49, 98 + 256, 49};
        int[] want = {2, -103, -100};
        for (int lane = 0; lane < 3; lane++) {
            RopedBells x = new RopedBells();
            x.sheet(2, lane, 9);
            for (int i = 0; i < codes.length; i++) {
                x.put(2, 3 + i, codes[i]);
            }
            c.due("valley of lane " + lane, x.valley(2, lane, 3, 5), want[lane]);
            c.due("valley too short, lane " + lane, x.valley(2, lane, 3, 0), -100);
            c.due("valley of cells from another place", x.valley(2, lane, 2, 5), -100);
        }
    }

    private static void promise2Refusals() {
        RopedBells x = new RopedBells();
        x.sheet(1, 1, 9);
        c.due("no sheet 4", x.valley(4, 3, -1, -1), -1);
        c.due("no sheet -1", x.valley(-1, 3, -1, -1), -1);
        c.due("lane 3", x.valley(1, 3, -1, -1), -2);
        c.due("lane -1 of nothing", x.valley(0, -1, -1, -1), -2);
        c.due("fault() when refused", x.fault(), 0);
        c.due("nothing is no CAST", x.valley(0, 0, -1, -1), -11);
        c.due("fault() NULL", x.fault(), 1);
        c.due("nothing, n below 0", x.valley(0, 2, 0, MIN), -11);
        c.due("CAST ahead of SIZE", x.valley(1, 0, -1, -1), -12);
        c.due("fault() CAST", x.fault(), 2);
        c.due("CAST to ints", x.valley(1, 2, 0, 0), -12);
        c.due("SIZE ahead of INDEX", x.valley(1, 1, -1, -1), -14);
        c.due("fault() SIZE", x.fault(), 4);
        c.due("SIZE", x.valley(1, 1, 0, MIN), -14);
        c.due("INDEX i below 0", x.valley(1, 1, -1, 1), -13);
        c.due("fault() INDEX", x.fault(), 3);
        c.due("INDEX i below 0, none taken", x.valley(1, 1, -1, 0), -13);
        c.due("INDEX i beyond, none taken", x.valley(1, 1, 10, 0), -13);
        c.due("none taken at the end", x.valley(1, 1, 9, 0), -100);
        c.due("fault() of a text too short", x.fault(), 0);
        c.due("INDEX n beyond", x.valley(1, 1, 0, 10), -13);
        c.due("INDEX one beyond", x.valley(1, 1, 9, 1), -13);
        c.due("INDEX wraps", x.valley(1, 1, 5, MAX), -13);
        c.due("INDEX far", x.valley(1, 1, MAX, MAX), -13);
        c.due("INDEX far below", x.valley(1, 1, MIN, 1), -13);
        c.due("still no valley", x.many(0), 0);
        c.due("empty sheet", x.sheet(3, 0, 0), 1);
        c.due("no codes of an empty sheet", x.valley(3, 0, 0, 0), -100);
        c.due("a code of an empty sheet", x.valley(3, 0, 0, 1), -13);
    }

    private static void promise2Anew() {
        RopedBells x = Check.with("vb1g2;011;108");
        x.tie(1, true);
        x.span(4);
        x.pull(0, 3);
        x.reading(0, 3, true);
        x.tell(0);
        c.due("ring ahead", x.rings(0), 1);
        c.due("a text that is not taken", Check.take(x, "vd3d3d3;012;9"), -112);
        c.due("bells stay", x.many(0), 2);
        c.due("ropes stay", x.many(1), 2);
        c.due("pulls stay", x.many(2), 1);
        c.due("readings stay", x.many(3), 1);
        c.due("span stays", x.many(4), 4);
        c.due("ties stay", x.ofBell(1, 3), 1);
        c.due("kinds stay", x.ofBell(0, 0), 0);
        c.due("needs stay", x.ofBell(0, 1), 1);
        c.due("the rope stays", x.ofRope(0, 2), 1);
        c.due("rings stay", x.rings(0), 1);
        c.due("a text that is taken", Check.take(x, "vb1b1b1"), 3);
        c.due("bells anew", x.many(0), 3);
        c.due("ropes anew", x.many(1), 0);
        c.due("pulls anew", x.many(2), 0);
        c.due("readings anew", x.many(3), 0);
        c.due("span anew", x.many(4), 2);
        c.due("ties anew", x.ofBell(1, 3), 0);
        c.due("rings anew", x.rings(0), 0);
        c.due("trace stays", x.trace(), 1);
        c.due("sheet 0 stays", x.cell(0, 0, 2), 118);
        c.due("the same text again", Check.take(x, "vb1b1b1"), 3);
        x.tie(0, true);
        x.pull(1, 1);
        c.due("from the same sheet", x.valley(0, 2, 0, 7), 3);
        c.due("free again", x.ofBell(0, 3), 0);
        c.due("no pulls again", x.many(2), 0);
    }

    private static void promise3OfBell() {
        RopedBells x = Check.with("vb1g1d1b3g3d3");
        int[][] want = {{0, 1, 1, 0}, {1, 1, 2, 0}, {2, 1, 2, 0}, {0, 3, 3, 0}, {1, 3, 4, 0}, {2, 3, 4, 0}};
        for (int b = 0; b < 6; b++) {
            for (int what = 0; what < 4; what++) {
                c.due("ofBell(" + b + ", " + what + ")", x.ofBell(b, what), want[b][what]);
            }
        }
        x.tie(2, true);
        c.due("tied", x.ofBell(2, 3), 1);
        c.due("another is free", x.ofBell(3, 3), 0);
        c.due("no such bell", x.ofBell(6, 4), -1);
        c.due("no bell -1", x.ofBell(-1, 0), -1);
        c.due("no bell MIN", x.ofBell(MIN, 0), -1);
        c.due("what 4", x.ofBell(5, 4), -2);
        c.due("what -1", x.ofBell(0, -1), -2);
        c.due("no valley", new RopedBells().ofBell(0, 0), -1);
    }

    private static void promise4OfRope() {
        RopedBells x = Check.with("vb1g2d3" + EIGHT);
        for (int r = 0; r < 8; r++) {
            for (int what = 0; what < 3; what++) {
                int want = EIGHT.charAt(4 * r + 1 + what) - '0';
                c.due("ofRope(" + r + ", " + what + ")", x.ofRope(r, what), want);
            }
        }
        x.hung(0);
        c.due("a tried rope is none", x.ofRope(8, 0), -1);
        c.due("no rope -1", x.ofRope(-1, 3), -1);
        c.due("what 3", x.ofRope(0, 3), -2);
        c.due("what -1", x.ofRope(7, -1), -2);
        c.due("no rope 8, what 3", x.ofRope(8, 3), -1);
        c.due("no ropes", Check.with("vb1b1").ofRope(0, 0), -1);
        c.due("no valley", new RopedBells().ofRope(0, 0), -1);
    }

    private static void promise5Tie() {
        RopedBells x = Check.with("vb1b1b1");
        x.pull(1, 2);
        c.due("free already", x.tie(1, false), 0);
        c.due("rings", x.rings(1), 1);
        c.due("becomes tied", x.tie(1, true), 1);
        c.due("rings no more", x.rings(1), 0);
        c.due("tied already", x.tie(1, true), 0);
        c.due("another becomes tied", x.tie(2, true), 1);
        c.due("becomes free", x.tie(1, false), 1);
        c.due("rings again", x.rings(1), 1);
        c.due("the other stays tied", x.ofBell(2, 3), 1);
        c.due("no bell 3", x.tie(3, true), -1);
        c.due("no bell -1", x.tie(-1, false), -1);
        c.due("no valley", new RopedBells().tie(0, true), -1);
    }

    private static void promise6Span() {
        RopedBells x = Check.with("vb2b1");
        c.due("span 2 at first", x.span(5), 2);
        c.due("many(4)", x.many(4), 5);
        c.due("span 0", x.span(0), 5);
        c.due("span the same", x.span(0), 0);
        c.due("span 6", x.span(6), -2);
        c.due("span -1", x.span(-1), -2);
        c.due("nothing changed", x.many(4), 0);
        RopedBells none = new RopedBells();
        c.due("no valley", none.span(0), -3);
        c.due("no valley, span 5", none.span(5), -3);
        c.due("OUTSIDE ahead of STATE", none.span(6), -2);
        c.due("still no span", none.many(4), 0);
    }

    private static void promise7Pull() {
        RopedBells x = Check.with("vb1b2");
        c.due("first", x.pull(0, 0), 0);
        c.due("second", x.pull(0, 99), 1);
        c.due("no bell 2, minute 100", x.pull(2, 100), -1);
        c.due("no bell -1", x.pull(-1, 0), -1);
        c.due("minute 100", x.pull(0, 100), -2);
        c.due("minute -1", x.pull(1, -1), -2);
        c.due("rings at 0 and 99", x.rings(0), 2);
        for (int k = 2; k < 6; k++) {
            c.due("pull " + k, x.pull(1, 10), k);
        }
        c.due("b2 rings once by four swings", x.rings(1), 1);
        c.due("seventh", x.pull(1, 10), -4);
        c.due("UNKNOWN ahead of FULL", x.pull(2, 10), -1);
        c.due("OUTSIDE ahead of FULL", x.pull(1, 100), -2);
        c.due("six", x.many(2), 6);
        c.due("no valley", new RopedBells().pull(0, 0), -1);
    }

    private static void promise8Undo() {
        RopedBells x = Check.with("vb1b1");
        x.pull(0, 1);
        x.pull(0, 3);
        x.pull(1, 5);
        c.due("rings ahead", x.rings(0) * 10 + x.rings(1), 21);
        c.due("none", x.undo(0), 3);
        c.due("more than there are", x.undo(4), -2);
        c.due("below 0", x.undo(-1), -2);
        c.due("the last one", x.undo(1), 2);
        c.due("it rings no more", x.rings(1), 0);
        c.due("the last one again", x.undo(1), 1);
        c.due("the first stays", x.ringsAt(0, 0) * 10 + x.rings(0), 11);
        c.due("a pull is numbered behind", x.pull(1, 2), 1);
        c.due("all", x.undo(2), 0);
        c.due("none left", x.many(2), 0);
        c.due("none rings", x.rings(0) + x.rings(1), 0);
        c.due("one of none", x.undo(1), -2);
        c.due("no valley", new RopedBells().undo(1), -2);
        c.due("no valley, none", new RopedBells().undo(0), 0);
    }
}
