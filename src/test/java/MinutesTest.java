/** Promises 9 to 12: which bells ring when by the PULLS. */
public final class MinutesTest {
    private static final Check c = new Check("MinutesTest");

    public static void main(String[] args) {
        spans();
        greatOnes();
        deafOnes();
        deafOnesBeginAnew();
        swingsBehindTheLastRing();
        ties();
        ropes();
        askedAgain();
        promise9Rings();
        promise10RingsAt();
        promise11Peal();
        promise12Stops();
        c.end();
    }

    private static RopedBells pulled(String text, int span, int... bellsAndMinutes) {
        RopedBells x = Check.with(text);
        x.span(span);
        for (int i = 0; i + 1 < bellsAndMinutes.length; i += 2) {
            x.pull(bellsAndMinutes[i], bellsAndMinutes[i + 1]);
        }
        return x;
    }

    private static void times(String what, RopedBells x, int bell, int... minutes) {
        c.due(what + ": rings(" + bell + ")", x.rings(bell), minutes.length);
        for (int k = 0; k < minutes.length; k++) {
            c.due(what + ": ringsAt(" + bell + ", " + k + ")", x.ringsAt(bell, k), minutes[k]);
        }
        c.due(what + ": no more", x.ringsAt(bell, minutes.length), -9);
    }

    private static void spans() {
        for (int span = 0; span <= 5; span++) {
            times("just in span " + span, pulled("vb2b1", span, 0, 10, 0, 10 + span), 0, 10 + span);
            times("just out of span " + span, pulled("vb2b1", span, 0, 10, 0, 11 + span), 0);
        }
        times("three in span 5", pulled("vb3b1", 5, 0, 0, 0, 2, 0, 5), 0, 5);
        times("three, one too old", pulled("vb3b1", 5, 0, 0, 0, 2, 0, 6), 0);
        times("by ropes", pulled("vb1b2;012;013", 1, 0, 3), 1, 6);
        times("by ropes, span 0", pulled("vb1b2;012;013", 0, 0, 3), 1);
        times("rope and pull", pulled("vb1b2;012", 0, 0, 3, 1, 5), 1, 5);
    }

    private static void greatOnes() {
        times("great, one too few", pulled("vg1b1", 2, 0, 0), 0);
        times("great", pulled("vg1b1", 2, 0, 0, 0, 1), 0, 1);
        times("great 3", pulled("vg3b1", 0, 0, 7, 0, 7, 0, 7, 0, 7), 0, 7);
        times("great 3, one too few", pulled("vg3b1", 0, 0, 7, 0, 7, 0, 7), 0);
    }

    private static void deafOnes() {
        times("pulls always count", pulled("vd1b1", 2, 0, 4, 0, 5), 0, 5);
        times("one too few", pulled("vd1b1", 2, 0, 4), 0);
        times("each second one, far apart", pulled("vb1d1;001;011", 1, 0, 0), 1);
        RopedBells x = pulled("vb1d1;001;011", 2, 0, 0);
        c.due("each second one: rings", x.rings(1), 99);
        c.due("each second one: first", x.ringsAt(1, 0), 4);
        c.due("each second one: second", x.ringsAt(1, 1), 8);
        c.due("each second one: last", x.ringsAt(1, 98), 396);
        times("first by rope does not count", pulled("vb1d1;012", 2, 0, 0, 1, 2), 1);
        times("two pulls beside", pulled("vb1d1;012", 2, 0, 0, 1, 2, 1, 3), 1, 3);
        times("a pull is not numbered", pulled("vb1d1;011;011", 0, 0, 0, 1, 1), 1, 1);
        times("four by ropes at once", pulled("vb1d1;011;011;011;011", 0, 0, 0), 1, 1);
        times("three by ropes at once", pulled("vb1d1;011;011;011", 0, 0, 0), 1);
        times("numbered over quiet minutes", pulled("vb1d1;011", 5, 0, 0, 0, 50, 1, 51), 1, 51);
    }

    private static void deafOnesBeginAnew() {
        times("the minute of the ring is ahead", pulled("vb1d1;011;011;011", 2, 0, 0, 1, 1, 0, 1), 1, 1);
        times("then from one on", pulled("vb1d1;011;011;011", 2, 0, 0, 1, 1, 0, 1, 1, 2), 1, 1, 2);
        times("an odd one stays odd", pulled("vb1d1;012", 2, 0, 0, 1, 2, 1, 3, 0, 5, 1, 7), 1, 3);
        times("and the next is even", pulled("vb1d1;012", 2, 0, 0, 1, 2, 1, 3, 0, 5, 0, 6, 1, 8), 1, 3, 8);
    }

    private static void swingsBehindTheLastRing() {
        times("those used are used", pulled("vb2b1", 5, 0, 0, 0, 1, 0, 2), 0, 1);
        times("and two more", pulled("vb2b1", 5, 0, 0, 0, 1, 0, 2, 0, 3), 0, 1, 3);
        times("of the same minute, too", pulled("vb2b1", 5, 0, 4, 0, 4, 0, 4, 0, 5), 0, 4);
        times("many at once ring once", pulled("vb1b1", 5, 0, 9, 0, 9, 0, 9, 0, 9, 0, 9, 0, 9), 0, 9);
    }

    private static void ties() {
        RopedBells x = pulled("vb1b1b1;011;121", 2, 0, 0);
        times("passes on", x, 2, 2);
        x.tie(1, true);
        times("tied", x, 1);
        times("passes nothing on", x, 2);
        times("another rings", x, 0, 0);
        x.tie(1, false);
        times("free again", x, 2, 2);
    }

    private static void ropes() {
        times("nine minutes", pulled("vb1b1;019", 0, 0, 99), 1, 108);
        times("to itself", pulled("vb1b1;001", 0, 0, 99), 1);
        RopedBells x = pulled("vb1b1;001", 0, 0, 99);
        c.due("to itself: rings", x.rings(0), 301);
        c.due("to itself: last", x.ringsAt(0, 300), 399);
        x = pulled("vb1b1;009", 0, 0, 0);
        c.due("by nines: rings", x.rings(0), 45);
        c.due("by nines: last", x.ringsAt(0, 44), 396);
        c.due("by nines: no more", x.ringsAt(0, 45), -9);
        times("not against a rope", pulled("vb1b1;011", 2, 1, 0), 0);
        times("two of the same", pulled("vb1b2;014;014", 0, 0, 2), 1, 6);
        times("two sides", pulled("vb1b1b2;023;122", 0, 0, 5, 1, 6), 2, 8);
    }

    /** What an earlier answer was worked out by must not be left over. */
    private static void askedAgain() {
        RopedBells x = pulled("vb1d1;012", 2, 0, 0, 1, 2);
        times("an odd one on a rope", x, 1);
        x.pull(1, 3);
        times("an odd one is odd again", x, 1, 3);
        x.span(0);
        times("not in span 0", x, 1);
        x.span(1);
        times("in span 1", x, 1, 3);
        x.tie(0, true);
        times("two pulls alone", x, 1, 3);
        x.undo(1);
        times("one pull alone", x, 1);
        x = pulled("vb1b1;019;015", 2, 0, 99);
        times("swings far on", x, 1, 104, 108);
        x.undo(1);
        x.pull(0, 0);
        times("and early ones", x, 1, 5, 9);
        x.undo(1);
        times("and none", x, 1);
        x = pulled("vb1b1;001;019", 2, 0, 0);
        x.fewest(3);
        times("when others were tried", x, 1, minutesFrom(9));
        x.undo(1);
        times("nothing is on the way any more", x, 1);
    }

    private static int[] minutesFrom(int first) {
        int[] minutes = new int[400 - first];
        for (int k = 0; k < minutes.length; k++) {
            minutes[k] = first + k;
        }
        return minutes;
    }

    private static void promise9Rings() {
        RopedBells x = pulled("vb1b1;011", 2, 0, 1, 0, 3);
        c.due("0", x.rings(0), 2);
        c.due("1", x.rings(1), 2);
        c.due("no bell 2", x.rings(2), -1);
        c.due("no bell -1", x.rings(-1), -1);
        c.due("no valley", new RopedBells().rings(0), -1);
    }

    private static void promise10RingsAt() {
        RopedBells x = pulled("vb1b1;011", 2, 0, 0, 0, 3);
        c.due("first", x.ringsAt(0, 0), 0);
        c.due("second", x.ringsAt(0, 1), 3);
        c.due("fewer", x.ringsAt(0, 2), -9);
        c.due("far fewer", x.ringsAt(0, Integer.MAX_VALUE), -9);
        c.due("k below 0", x.ringsAt(0, -1), -1);
        c.due("k far below 0", x.ringsAt(0, Integer.MIN_VALUE), -1);
        c.due("no bell 2", x.ringsAt(2, 0), -1);
        c.due("no bell -1", x.ringsAt(-1, 0), -1);
        c.due("no valley", new RopedBells().ringsAt(0, 0), -1);
    }

    private static void promise11Peal() {
        RopedBells x = pulled("vb1b1b1b1b1b1;051;055", 2, 0, 0, 5, 0, 2, 1);
        c.due("0 and 5", x.peal(0), 33);
        c.due("2 and 5", x.peal(1), 36);
        c.due("none", x.peal(2), 0);
        c.due("5", x.peal(5), 32);
        c.due("399", x.peal(399), 0);
        c.due("minute 400", x.peal(400), -2);
        c.due("minute -1", x.peal(-1), -2);
        RopedBells none = new RopedBells();
        c.due("no valley", none.peal(0), -3);
        c.due("OUTSIDE ahead of STATE", none.peal(400), -2);
    }

    private static void promise12Stops() {
        c.due("none rings", pulled("vb1b1", 2).stops(), -9);
        c.due("too few swings", pulled("vb2b1", 2, 0, 7).stops(), -9);
        c.due("at 0", pulled("vb1b1", 2, 0, 0).stops(), 0);
        c.due("at the last", pulled("vb1b1;018", 2, 0, 90, 1, 3).stops(), 98);
        c.due("by nines", pulled("vb1b1;009", 2, 0, 0).stops(), 396);
        c.due("never", pulled("vb1b1;001", 2, 0, 0).stops(), 399);
        c.due("no valley", new RopedBells().stops(), -3);
    }
}
