/** ==== 3 and 4, FEWEST, STILL, HUNG, CUT, READINGS, FIRST, GONE, SNEEZES, TUNES: the bounds that their sentences name. */
public final class AsksEdgesTest {
    // With SPAN 0 and bells 0 and 1 pulled at 0, bell 3 is swung at 9, 18, 27 .. and at 11, 22, 33 ..: it rings at 99.
    private static final String AT_99 = "vb1b1b1b2;009;125;216;039;236";
    // .. at 1, 10, 19 .. and at 12, 23, 34 ..: it rings at 100 (with bell 2 in place of bell 1 at 73).
    private static final String AT_100 = "vb1b1b1b2;009;125;216;031;237";
    private static final String ALONE = "vb1b1b1b1b1b1;001;111;221;331;441;551";

    private static final Check c = new Check("AsksEdgesTest");

    public static void main(String[] args) {
        earlyMinutesOfPulls();
        fewestOfNone();
        fewestOfAll();
        fewestLeast();
        fewestBits();
        stillBounds();
        stillAll();
        stillLeast();
        hungNow();
        hungLong();
        hungLeast();
        hungMost();
        cutBounds();
        cutAll();
        readingsSix();
        firstBounds();
        goneBounds();
        sneezesTerms();
        tuneBounds();
        tuneMinutes();
        tuneBells();
        c.end();
    }

    private static RopedBells pulled(String text, int span, int... bellsAndMinutes) {
        RopedBells x = Check.with(text);
        x.span(span);
        for (int i = 0; i + 1 < bellsAndMinutes.length; i += 2) {
            x.pull(bellsAndMinutes[i], bellsAndMinutes[i + 1]);
        }
        return x;
    }

    /** MINUTES 0 .. 99: what rings first at 99 rings, what rings first at 100 does not. */
    private static void earlyMinutesOfPulls() {
        RopedBells x = pulled(AT_99, 0, 0, 0, 1, 0);
        c.due("it rings first at 99", x.ringsAt(3, 0), 99);
        c.due("fewest, at 99", x.fewest(15), 3);
        c.due("hung, none more", x.hung(0), -9);
        c.due("hung, four ring now", x.hung(1), 4);
        c.due("cut, all but the one back", x.cut(), 31);
        share("at 99", x, 3, 8);
        x = pulled(AT_100, 0, 0, 0, 1, 0);
        c.due("it rings first at 100", x.ringsAt(3, 0), 100);
        c.due("fewest, at 100", x.fewest(15), 5);
        c.due("hung, one more by a rope", x.hung(1), 4);
        c.due("cut, the one between 1 and 2", x.cut(), 2);
        share("at 100", x, 5, 16);
        x = pulled("vb1b1;019", 2, 0, 90);
        c.due("by a rope at 99: hung", x.hung(0), -9);
        c.due("by a rope at 99: how many", x.hung(1), 2);
        c.due("by a rope at 99: cut", x.cut(), 1);
        x = pulled("vb1b1;019", 2, 0, 91);
        c.due("by a rope at 100: hung", x.hung(0), 11);
        c.due("by a rope at 100: how many", x.hung(1), 2);
        c.due("by a rope at 100: cut", x.cut(), 0);
    }

    private static void fewestOfNone() {
        RopedBells x = Check.with("vb1b1");
        c.due("of no BELLS", x.fewest(0), 0);
        x.tie(0, true);
        x.tie(1, true);
        c.due("of no BELLS, all TIED", x.fewest(0), 0);
        c.due("of a TIED one", x.fewest(1), -9);
        c.due("of both TIED ones", x.fewest(3), -9);
        x.tie(0, false);
        c.due("of the free one", x.fewest(1), 1);
        c.due("of the free one and the TIED one", x.fewest(3), -9);
    }

    private static void fewestOfAll() {
        c.due("each by itself", Check.with("vd3g3b3d1g1b1").fewest(63), 63);
        c.due("one by one, the last", Check.with("vd3g3b3d1g1b1").fewest(32), 32);
        c.due("two bells", Check.with("vd3d3").fewest(3), 3);
        c.due("one that swings the other", Check.with("vd3b2;015;015").fewest(3), 1);
        c.due("one that swings the other too seldom", Check.with("vd3b3;015;015").fewest(3), 3);
    }

    private static void fewestLeast() {
        String rings = "vb1b1b1b1b1b1;011;101;231;321;451;541";
        RopedBells x = Check.with(rings);
        c.due("of either the least", x.fewest(3), 1);
        c.due("of the greater one the least", x.fewest(2), 1);
        c.due("of three pairs", x.fewest(63), 21);
        c.due("of the last pair", x.fewest(32), 16);
        x.tie(0, true);
        c.due("the least is TIED", x.fewest(2), 2);
        c.due("of three pairs, one TIED", x.fewest(62), 22);
        c.due("one bell ahead of two that are less", Check.with("vb1b1b1b1b1b1;501;511;521;531;541").fewest(31), 32);
    }

    private static void fewestBits() {
        String bells = "vb1";
        for (int n = 2; n <= 6; n++) {
            bells += "b1";
            RopedBells x = Check.with(bells);
            int all = (1 << n) - 1;
            c.due("all of " + n, x.fewest(all), all);
            c.due("the last of " + n, x.fewest(1 << n - 1), 1 << n - 1);
            c.due("a bit of no bell, of " + n, x.fewest(1 << n), -2);
            c.due("all and a bit of no bell", x.fewest(2 * all + 1), -2);
            c.due("the highest bit", x.fewest(Integer.MIN_VALUE), -2);
            c.due("all bits", x.fewest(-1), -2);
        }
    }

    private static void stillBounds() {
        RopedBells x = pulled("vb1b1;009", 2, 0, 3);
        c.due("t 398, it rings at 399", x.still(398), 1);
        c.due("t 399", x.still(399), -2);
        c.due("t -1", x.still(-1), -2);
        x = pulled("vb1b1;009", 2, 0, 4);
        c.due("t 398, the last is at 391", x.still(398), 0);
        c.due("t 391", x.still(391), 0);
        c.due("t 390", x.still(390), 1);
        x = pulled("vb1b1", 2, 1, 0);
        c.due("t 0, it rings at 0", x.still(0), 0);
        x = pulled("vb1b1", 2, 1, 1);
        c.due("t 0, it rings at 1", x.still(0), 2);
        c.due("t 1, it rings at 1", x.still(1), 0);
        c.due("no pulls", Check.with(ALONE).still(0), 0);
    }

    /** All of them always do; and more than are TIED: those that are TIED are not told. */
    private static void stillAll() {
        RopedBells x = pulled(ALONE, 0, 0, 0, 1, 0, 2, 0, 3, 0, 4, 0, 5, 0);
        c.due("all six", x.still(398), 63);
        c.due("all six, t 0", x.still(0), 63);
        for (int b = 0; b < 6; b++) {
            x.tie(b, true);
            c.due("more than " + (b + 1), x.still(200), 63 & ~((2 << b) - 1));
        }
        c.due("all are tied: none rings", x.stops(), -9);
        x.tie(2, false);
        c.due("but for one", x.still(200), 4);
    }

    private static void stillLeast() {
        // Two pairs that swing each other; 1 and 3 are pulled at 1, 0 and 2 ring at 2.
        RopedBells x = pulled("vb1b1b1b1;011;101;231;321", 2, 1, 1, 3, 1);
        c.due("the least of four pairs of bells", x.still(1), 5);
        c.due("those that are pulled", x.still(0), 10);
        x.tie(2, true);
        c.due("the least of two", x.still(1), 1);
        x.tie(2, false);
        x.tie(3, true);
        c.due("the least of two, the other way", x.still(1), 1);
        c.due("the one that is pulled", x.still(0), 2);
        // 5 swings 0 to 3, and each of them swings 5: 5 alone is to be TIED, or all four of them.
        x = pulled("vb1b1b1b1b1b1;501;511;521;531;051;151;251;351", 2, 5, 0);
        c.due("the greatest alone ahead of those that are less", x.still(2), 32);
    }

    private static void hungNow() {
        RopedBells x = Check.with("vb1b1");
        c.due("none rings", x.hung(0), -9);
        c.due("none, how many", x.hung(1), 0);
        x.pull(0, 0);
        x.tie(1, true);
        c.due("the other is TIED", x.hung(0), -9);
        c.due("one, as now", x.hung(1), 1);
        x.tie(0, true);
        c.due("all are TIED", x.hung(0), -9);
        c.due("none, as now", x.hung(1), 0);
        x.tie(0, false);
        x.tie(1, false);
        c.due("one more", x.hung(0), 11);
        c.due("two then", x.hung(1), 2);
        x.pull(1, 9);
        c.due("all ring", x.hung(0), -9);
        c.due("two now", x.hung(1), 2);
        x = pulled("vb1b1b1b1b1b1", 2, 5, 0);
        c.due("from the last to the first", x.hung(0), 501);
        c.due("two of six", x.hung(1), 2);
        x = pulled("vb1b1b1b1b1b1", 2, 0, 0, 1, 0, 2, 0, 3, 0, 4, 0);
        c.due("from the first to the last", x.hung(0), 51);
        c.due("six of six", x.hung(1), 6);
    }

    /** LONG 1 .. 3: with SPAN 0 the second swing must come just so long behind, or to itself. */
    private static void hungLong() {
        for (int minutes = 1; minutes <= 9; minutes++) {
            RopedBells x = pulled("vb1b2;01" + minutes, 0, 0, 0);
            c.due("another one of LONG " + minutes, x.hung(0), minutes <= 3 ? 10 + minutes : -9);
            c.due("LONG " + minutes + ", how many", x.hung(1), minutes <= 3 ? 2 : 1);
        }
        for (int at = 97; at <= 99; at++) {
            RopedBells x = pulled("vb1b2", 0, 0, at, 1, 99);
            c.due("from " + at + " to 99", x.hung(0), at == 99 ? -9 : 11 + 98 - at);
        }
        c.due("from 96 to 99", pulled("vb1b2", 0, 0, 96, 1, 99).hung(0), 13);
        c.due("from 95 to 99", pulled("vb1b2", 0, 0, 95, 1, 99).hung(0), -9);
        // The rope to itself makes it ring each minute: two swings a minute at the other end, each SPAN.
        c.due("to itself", pulled("vb1b2;012", 1, 0, 0).hung(0), 1);
    }

    private static void hungLeast() {
        c.due("the least from", pulled("vb1b1b1", 2, 0, 0, 1, 0).hung(0), 21);
        c.due("the least to", pulled("vb1b1b1", 2, 2, 0).hung(0), 201);
        c.due("the least LONG", pulled("vb1b1", 2, 1, 0).hung(0), 101);
        c.due("from ahead of to", pulled("vb1b1b1b1;231;321", 2, 0, 0, 1, 0).hung(0), 21);
        c.due("from ahead of LONG", pulled("vb1b1b2;022;122", 0, 0, 0).hung(0), 11);
        // One more by 0 to 1, two more by 0 to 2 (which swings 3): the most ahead of the least.
        c.due("the most ahead of the least", pulled("vb1b1b1b1;231", 2, 0, 0).hung(0), 21);
        c.due("the most, how many", pulled("vb1b1b1b1;231", 2, 0, 0).hung(1), 3);
        c.due("the most by the greatest to", pulled("vb1b1b1b1;321", 2, 0, 0).hung(0), 31);
        // With LONG 1 or 2 it rings 1 alone; with LONG 3 the swing of 1 comes to 2 with that of 0.
        c.due("the most by a LONG that is not the least", pulled("vb1b1b2;024;121", 0, 0, 0).hung(0), 13);
    }

    private static void hungMost() {
        RopedBells x = pulled("vb1b1b1;001;001;001;001;001;001;001;001", 2, 0, 0);
        c.due("ropes are as many as there may be", x.many(1), 8);
        c.due("a ninth", x.hung(0), 11);
        c.due("a ninth, how many", x.hung(1), 2);
        c.due("it does not stay", x.many(1), 8);
        c.due("nor does what rings by it", x.rings(1), 0);
        c.due("no rope 8", x.ofRope(8, 0), -1);
        c.due("asked again", x.hung(0), 11);
        c.due("cut of eight of the same", x.cut(), 0);
        c.due("cut behind hung", x.gone(), 255);
        x.tie(1, true);
        c.due("the other one", x.hung(0), 21);
        x = Check.with("vb1b1");
        c.due("no ropes and no pulls", x.hung(0), -9);
    }

    private static void cutBounds() {
        c.due("no ropes", pulled("vb1b1", 2, 0, 0).cut(), 0);
        c.due("no pulls", Check.with("vb1b1;011").cut(), 0);
        c.due("as many ring without it", pulled("vb1b1;001", 2, 0, 0).cut(), 0);
        RopedBells x = pulled("vb1b1;011", 2, 0, 0);
        c.due("fewer ring without it", x.cut(), 1);
        x.pull(1, 99);
        c.due("it is pulled at 99, too", x.cut(), 0);
        x.tie(1, true);
        c.due("TIED", x.cut(), 0);
        c.due("alone, not together", pulled("vb1b1;011;012", 2, 0, 0).cut(), 0);
        // Of two at 1 and three at 2 the second and the fourth count; without one at 1 two of those at 2 do.
        x = pulled("vb1d1;011;011;012;012;012", 0, 0, 0);
        c.due("the deaf one does not ring", x.rings(1), 0);
        c.due("more ring without it, not fewer", x.cut(), 0);
        x.reading(1, 2, true);
        c.due("it would ring without either", x.gone(), 3);
    }

    private static void cutAll() {
        String eight = "vb1b1b1b2b2b2;011;021;031;131;141;241;251;351";
        RopedBells x = pulled(eight, 2, 0, 0);
        c.due("all ring", x.hung(1), 6);
        c.due("each of eight", x.cut(), 255);
        c.due("each of eight is gone, no readings", x.gone(), 255);
        x.reading(5, 3, true);
        c.due("5 rang at 3", x.gone(), 1 << 4 | 1 << 5);
        x.back(1);
        x.reading(5, 3, false);
        c.due("5 did not ring at 3", x.gone(), 255 - (1 << 4 | 1 << 5));
        x.pull(5, 0);
        x.pull(5, 0);
        c.due("5 is pulled", x.cut(), 63);
    }

    private static void readingsSix() {
        RopedBells x = pulled("vb1b1", 2, 0, 0);
        for (int k = 0; k < 6; k++) {
            c.due("number", x.reading(0, k == 0 ? 0 : 400 - k, k == 0), k);
            c.due("many readings", x.many(3), k + 1);
            c.due("all are so", x.first(), 1);
        }
        c.due("a seventh", x.reading(0, 0, true), -4);
        c.due("seven of six", x.back(7), -2);
        c.due("none of six", x.back(0), 6);
        c.due("the last of six", x.back(1), 5);
        c.due("the sixth is not so", x.reading(1, 0, true), 5);
        c.due("one of six is not so", x.first(), 0);
        c.due("all six", x.back(6), 0);
        c.due("one of none", x.back(1), -2);
        c.due("none of none", x.back(0), 0);
        c.due("all are so again", x.first(), 3);
        c.due("the pull stays", x.many(2), 1);
        c.due("from 0 on again", x.reading(1, 399, true), 0);
        c.due("none rings it then", x.first(), 0);
    }

    private static void firstBounds() {
        RopedBells x = Check.with(ALONE);
        c.due("no readings: all six", x.first(), 63);
        x.reading(5, 399, true);
        c.due("the last at the last", x.first(), 32);
        x.back(1);
        x.reading(5, 399, false);
        c.due("the last not at the last", x.first(), 31);
        x.reading(0, 0, true);
        c.due("and the first at the first", x.first(), 1);
        x.reading(0, 0, false);
        c.due("at once so and not so", x.first(), 0);
        x = Check.with("vb1b1;004");
        x.reading(0, 399, true);
        c.due("by fours at 396, not at 399", x.first(), 0);
        x.back(1);
        x.reading(0, 396, true);
        c.due("by fours at 396", x.first(), 1);
        x = Check.with("vb1b1;007");
        x.reading(0, 399, true);
        c.due("by sevens at 399", x.first(), 1);
        x.reading(0, 398, true);
        c.due("by sevens not at 398", x.first(), 0);
        // The deaf one is pulled four times.
        x = Check.with("vd3b1;012");
        x.reading(0, 0, true);
        x.reading(1, 2, true);
        x.reading(1, 3, false);
        c.due("a deaf one by four swings", x.first(), 1);
        x = Check.with("vb1b1");
        x.tie(0, true);
        c.due("no readings, one TIED", x.first(), 3);
        x.reading(0, 0, false);
        c.due("a TIED one is not heard", x.first(), 3);
        x.reading(1, 0, false);
        c.due("nor is the other", x.first(), 1);
    }

    private static void goneBounds() {
        c.due("no ropes, no readings", Check.with("vb1b1").gone(), 0);
        RopedBells x = pulled("vb1b1", 2, 0, 0);
        x.reading(0, 0, true);
        c.due("no ropes, a reading that is so", x.gone(), 0);
        x = Check.with("vb1b1;001;001;001;001;001;001;001;011");
        c.due("no pulls, no readings: all eight", x.gone(), 255);
        x.pull(0, 0);
        c.due("no readings: all eight", x.gone(), 255);
        x.reading(1, 399, false);
        c.due("not at 399 without the eighth", x.gone(), 128);
        x.back(1);
        x.reading(1, 399, true);
        c.due("at 399 without one of the others", x.gone(), 127);
        x.reading(0, 0, false);
        c.due("that is not so by the pulls", x.gone(), 0);
        x = pulled("vb1b1;011", 2, 0, 99);
        x.reading(1, 100, true);
        c.due("it rang at 100, so it is not gone", x.gone(), 0);
        x.back(1);
        x.reading(1, 100, false);
        c.due("it did not ring at 100, so it is gone", x.gone(), 1);
        x.back(1);
        x.reading(1, 99, false);
        c.due("at 99 it does not ring anyway", x.gone(), 1);
    }

    private static void share(String what, RopedBells x, long upper, long lower) {
        c.due(what + ": upper", x.sneezes(0), upper);
        c.due(what + ": lower", x.sneezes(1), lower);
        c.due(what + ": which 2", x.sneezes(2), Long.MIN_VALUE);
        c.due(what + ": which -1", x.sneezes(-1), Long.MIN_VALUE);
    }

    /** In least terms: of 2 to 6 bells 1, .. or all but one or all sets. */
    private static void sneezesTerms() {
        String bells = "vb1";
        for (int n = 2; n <= 6; n++) {
            bells += "b1";
            StringBuilder ring = new StringBuilder();
            for (int b = 0; b < n; b++) {
                ring.append(';').append(b).append((b + 1) % n).append(1);
            }
            share(n + " by themselves", Check.with(bells), 1, 1 << n);
            share(n + " in a ring", Check.with(bells + ring), (1 << n) - 1, 1 << n);
            RopedBells x = Check.with(bells);
            for (int b = 0; b < n; b++) {
                share(n + " bells, tied: " + b, x, 1, 1 << n - b);
                x.tie(b, true);
            }
            share(n + " tied", x, 1, 1);
        }
        share("32 of 64", Check.with("vb1b1b1b1b1b1;011;021;031;041;051"), 1, 2);
        share("12 of 16", Check.with("vb1b1b1b1;011;101;021;031"), 3, 4);
        share("2 of 8", Check.with("vb1b1b1;011"), 1, 4);
        share("6 of 8", Check.with("vb1b1b1;011;101;021"), 3, 4);
    }

    private static RopedBells withRow(RopedBells x, int lane, int size, int... bells) {
        x.sheet(3, lane, size);
        for (int i = 0; i < bells.length; i++) {
            x.put(3, i, bells[i]);
        }
        return x;
    }

    private static void tuneBounds() {
        for (int lane = 0; lane < 3; lane++) {
            RopedBells x = withRow(pulled("vb1b1;001", 2, 0, 0), lane, 60);
            c.due("one", x.tune(3, lane, 0, 1), 0);
            c.due("one, the last cell", x.tune(3, lane, 59, 1), 0);
            c.due("eight", x.tune(3, lane, 0, 8), 7);
            c.due("eight, up to the last cell", x.tune(3, lane, 52, 8), 7);
            c.due("eight, one beyond", x.tune(3, lane, 53, 8), -13);
            c.due("nine", x.tune(3, lane, 0, 9), -2);
            c.due("nine, up to the last cell", x.tune(3, lane, 51, 9), -2);
            c.due("nine, one beyond", x.tune(3, lane, 52, 9), -13);
            c.due("sixty", x.tune(3, lane, 0, 60), -2);
            c.due("sixty-one", x.tune(3, lane, 0, 61), -13);
            c.due("none", x.tune(3, lane, 0, 0), -2);
            c.due("none at the row's end", x.tune(3, lane, 60, 0), -2);
            c.due("none behind the row's end", x.tune(3, lane, 61, 0), -13);
            c.due("fault() of that", x.fault(), 3);
            c.due("none ahead of the row", x.tune(3, lane, -1, 0), -13);
            c.due("one less than none", x.tune(3, lane, 0, -1), -14);
            c.due("of an empty row", withRow(x, lane, 0).tune(3, lane, 0, 0), -2);
            c.due("one of an empty row", x.tune(3, lane, 0, 1), -13);
        }
    }

    /** Minutes that grow, in MINUTES 0 .. 399; the soonest at which it is whole. */
    private static void tuneMinutes() {
        RopedBells x = withRow(pulled("vb1b1;009", 2, 0, 3, 1, 99), 2, 9, 1, 0, 0, 0, 0, 0, 0, 0, 0);
        c.due("at 3", x.tune(3, 2, 1, 1), 3);
        c.due("behind another at 99", x.tune(3, 2, 0, 2), 102);
        c.due("eight, one behind another", x.tune(3, 2, 1, 8), 66);
        x = withRow(pulled("vb1b1;009;119", 2, 0, 3, 1, 3), 2, 2, 0, 1);
        c.due("in one minute both: the second is later", x.tune(3, 2, 0, 2), 12);
        x = withRow(pulled("vb1b1b1b1;009;019;129;239", 2, 0, 39), 2, 2, 3, 0);
        c.due("first at 66, the other at 75", x.tune(3, 2, 0, 2), 75);
        // Once round takes 54 minutes: from 21 on the eighth time is at 399, from 22 on it would be at 400.
        x = withRow(pulled("vb1b1b1b1b1b1;019;129;239;349;459;509", 2, 0, 21), 2, 8, 0, 0, 0, 0, 0, 0, 0, 0);
        c.due("whole at 399", x.tune(3, 2, 0, 8), 399);
        x = withRow(pulled("vb1b1b1b1b1b1;019;129;239;349;459;509", 2, 0, 22), 2, 8, 0, 0, 0, 0, 0, 0, 0, 0);
        c.due("it would be whole at 400", x.tune(3, 2, 0, 8), -9);
        c.due("seven of them at 346", x.tune(3, 2, 0, 7), 346);
        x = withRow(pulled("vb1b1", 2, 0, 0, 1, 1), 2, 3, 0, 1, 0);
        c.due("whole at 0", x.tune(3, 2, 0, 1), 0);
        c.due("whole at 1", x.tune(3, 2, 0, 2), 1);
        c.due("the other way round", x.tune(3, 2, 1, 2), -9);
        c.due("no second time", x.tune(3, 2, 0, 3), -9);
        x.undo(2);
        c.due("no pulls", x.tune(3, 2, 0, 1), -9);
    }

    private static void tuneBells() {
        String bells = "vb1";
        for (int n = 2; n <= 6; n++) {
            bells += "b1";
            for (int lane = 0; lane < 3; lane++) {
                RopedBells x = withRow(pulled(bells, 2, n - 1, 5), lane, 4, n - 1, n, -1, 0);
                c.due("the last bell of " + n, x.tune(3, lane, 0, 1), 5);
                c.due("no bell " + n, x.tune(3, lane, 1, 1), -1);
                c.due("no bell -1", x.tune(3, lane, 2, 1), -1);
                c.due("bell 0", x.tune(3, lane, 3, 1), -9);
                c.due("one of them is none", x.tune(3, lane, 0, 2), -1);
                c.due("one of them is none, the last", x.tune(3, lane, 2, 2), -1);
                c.due("fault() when refused", x.fault(), 0);
                x.put(3, 0, 256 + n - 1);
                c.due("cut to the lane", x.tune(3, lane, 0, 1), lane == 0 ? 5 : -1);
                x.put(3, 0, 65536 + n - 1);
                c.due("cut to the lane, shorts", x.tune(3, lane, 0, 1), lane < 2 ? 5 : -1);
                x.put(3, 0, Integer.MIN_VALUE + n - 1);
                c.due("cut to the lane, ints", x.tune(3, lane, 0, 1), lane < 2 ? 5 : -1);
            }
        }
    }
}
