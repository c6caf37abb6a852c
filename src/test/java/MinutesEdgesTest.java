/** ==== 1 and 2, SPAN, kinds, PULLS, MINUTES, RINGS, STOPS: the last number that is still as told, and the first that is not. */
public final class MinutesEdgesTest {
    private static final Check c = new Check("MinutesEdgesTest");

    public static void main(String[] args) {
        needsOfEachKind();
        deafOnesByRopes();
        deafOnesByRopesAndPulls();
        deafOnesSinceTheyLastRang();
        deafOnesWhileTied();
        spansOfPulls();
        spansOfRopes();
        spansChange();
        behindTheLastRing();
        firstAndLastPull();
        firstAndLastMinute();
        sixPulls();
        nothingThere();
        allSixRing();
        longRopes();
        fiveHundredAndTwelveCalls();
        c.end();
    }

    private static RopedBells pulled(String text, int span, int... bellsAndMinutes) {
        RopedBells x = Check.with(text);
        x.span(span);
        for (int i = 0; i + 1 < bellsAndMinutes.length; i += 2) {
            x.pull(bellsAndMinutes[i], bellsAndMinutes[i + 1]);
        }
        return x;
    }

    /** A GREAT bell and a DEAF one need one swing more than NEEDS tells. */
    private static void needsOfEachKind() {
        String[] bells = {"b1", "b2", "b3", "g1", "g2", "g3", "d1", "d2", "d3"};
        int[] needed = {1, 2, 3, 2, 3, 4, 2, 3, 4};
        for (int k = 0; k < bells.length; k++) {
            RopedBells x = Check.with("vb1" + bells[k]);
            c.due(bells[k] + " needs", x.ofBell(1, 2), needed[k]);
            c.due(bells[k] + " by no swing", x.rings(1), 0);
            for (int pulls = 1; pulls <= 6; pulls++) {
                x.pull(1, 50);
                c.due(bells[k] + " by " + pulls + " swings", x.rings(1), pulls >= needed[k] ? 1 : 0);
                c.due(bells[k] + " first by " + pulls, x.ringsAt(1, 0), pulls >= needed[k] ? 50 : -9);
            }
        }
    }

    /** Of the swings by ropes only the second, the fourth and so on count: 4 ropes for two, 6 for three, 8 for four. */
    private static void deafOnesByRopes() {
        int[] least = {0, 4, 6, 8};
        for (int needs = 1; needs <= 3; needs++) {
            StringBuilder text = new StringBuilder("vb1d" + needs);
            for (int ropes = 0; ropes <= 8; ropes++) {
                RopedBells x = pulled(text.toString(), 0, 0, 7);
                c.due("d" + needs + " by " + ropes + " ropes", x.ringsAt(1, 0), ropes >= least[needs] ? 12 : -9);
                text.append(";015");
            }
        }
    }

    private static void deafOnesByRopesAndPulls() {
        for (int ropes = 0; ropes <= 3; ropes++) {
            StringBuilder text = new StringBuilder("vb1d2");
            for (int r = 0; r < ropes; r++) {
                text.append(";011");
            }
            RopedBells x = pulled(text.toString(), 0, 0, 7, 1, 8);
            c.due("one pull, ropes: " + ropes, x.rings(1), 0);
            x.pull(1, 8);
            c.due("two pulls, ropes: " + ropes, x.rings(1), ropes >= 2 ? 1 : 0);
            x.pull(1, 8);
            c.due("three pulls, ropes: " + ropes, x.rings(1), 1);
        }
    }

    /** The swings of the minute in which it rings are ahead of that: behind it the next one is the first again. */
    private static void deafOnesSinceTheyLastRang() {
        RopedBells x = pulled("vb1d1;013", 5, 1, 3, 1, 3, 0, 0, 0, 1, 0, 2);
        c.due("two pulls ring it, and swings come at 3, 4, 5", x.rings(1), 1);
        c.due("at 3", x.ringsAt(1, 0), 3);
        x.pull(1, 6);
        c.due("that of 5 is the second behind 3", x.ringsAt(1, 1), 6);
        x.undo(1);
        x.undo(1);
        x.pull(1, 6);
        c.due("without that of 5 none is the second", x.rings(1), 1);
        x = pulled("vb1d1;001;011;011", 0, 0, 0);
        c.due("two by ropes a minute, one counts", x.rings(1), 0);
        x.span(1);
        c.due("at 2", x.ringsAt(1, 0), 2);
        c.due("each second minute", x.rings(1), 199);
        c.due("the last at 398", x.ringsAt(1, 198), 398);
    }

    /** The swings that came while it is TIED are told from the beginning on: free again it rings as ever. */
    private static void deafOnesWhileTied() {
        RopedBells x = pulled("vb1d1;012", 2, 0, 0, 0, 1, 1, 3);
        c.due("the second at 3", x.ringsAt(1, 0), 3);
        x.tie(1, true);
        c.due("tied", x.rings(1), 0);
        c.due("tied, asked again", x.ringsAt(1, 0), -9);
        x.tie(1, false);
        c.due("free again", x.ringsAt(1, 0), 3);
        x.tie(0, true);
        c.due("the other is tied: no swing by the rope", x.rings(1), 0);
    }

    /** Swings at minutes m less SPAN .. m count together: just as far back, and one minute more. */
    private static void spansOfPulls() {
        for (int span = 0; span <= 5; span++) {
            for (int apart = 0; apart <= 7; apart++) {
                int due = apart <= span ? 1 : 0;
                c.due(apart + " apart in span " + span + " from 0 on", pulled("vb2b1", span, 0, 0, 0, apart).rings(0), due);
                c.due(apart + " apart in span " + span + " up to 99",
                    pulled("vb2b1", span, 0, 99, 0, 99 - apart).rings(0), due);
                c.due("three, " + apart + " apart in span " + span,
                    pulled("vb3b1", span, 0, 40, 0, 40, 0, 40 + apart).rings(0), due);
            }
        }
    }

    private static void spansOfRopes() {
        for (int span = 0; span <= 5; span++) {
            for (int apart = 0; apart <= 8; apart++) {
                RopedBells x = pulled("vb1b2;011;01" + (1 + apart), span, 0, 0);
                c.due(apart + " apart by ropes in span " + span, x.ringsAt(1, 0), apart <= span ? 1 + apart : -9);
            }
        }
    }

    private static void spansChange() {
        RopedBells x = pulled("vb2b1", 0, 0, 10, 0, 15);
        for (int v = 0; v <= 5; v++) {
            c.due("what it was", x.span(v), Math.max(v - 1, 0));
            c.due("what it is", x.many(4), v);
            c.due("five apart in span " + v, x.rings(0), v == 5 ? 1 : 0);
        }
        for (int v = 5; v >= 0; v--) {
            c.due("what it was, down", x.span(v), Math.min(v + 1, 5));
            c.due("five apart in span " + v + ", down", x.rings(0), v == 5 ? 1 : 0);
        }
    }

    /** Only what is behind the minute in which it last rang counts: not that minute's own swings. */
    private static void behindTheLastRing() {
        RopedBells x = pulled("vb2b1", 5, 0, 4, 0, 4, 0, 4, 0, 4, 0, 5);
        c.due("four at 4 and one at 5", x.rings(0), 1);
        x.pull(0, 5);
        c.due("and two at 5", x.rings(0), 2);
        c.due("at 5", x.ringsAt(0, 1), 5);
        x = pulled("vb1b2;011;012;013;014;015;016;017;018", 5, 0, 0);
        c.due("eight in eight minutes, two a ring", x.rings(1), 4);
        c.due("the last at 8", x.ringsAt(1, 3), 8);
    }

    private static void firstAndLastPull() {
        RopedBells x = pulled("vb1b1", 0, 0, 0, 1, 99);
        c.due("at 0", x.ringsAt(0, 0), 0);
        c.due("at 99", x.ringsAt(1, 0), 99);
        c.due("no pull at 100", x.pull(0, 100), -2);
        c.due("no pull at -1", x.pull(0, -1), -2);
        c.due("peal at 0", x.peal(0), 1);
        c.due("peal at 99", x.peal(99), 2);
        c.due("peal at 98", x.peal(98), 0);
        c.due("peal at 100", x.peal(100), 0);
        c.due("stops", x.stops(), 99);
    }

    /** By nines from 3 on a ring comes at 399; from 4 on it would come at 400, and the last is at 391. */
    private static void firstAndLastMinute() {
        RopedBells x = pulled("vb1b1;009", 2, 0, 3);
        c.due("up to 399: rings", x.rings(0), 45);
        c.due("up to 399: the last", x.ringsAt(0, 44), 399);
        c.due("up to 399: no more", x.ringsAt(0, 45), -9);
        c.due("up to 399: peal", x.peal(399), 1);
        c.due("up to 399: stops", x.stops(), 399);
        x = pulled("vb1b1;009", 2, 0, 4);
        c.due("up to 391: rings", x.rings(0), 44);
        c.due("up to 391: the last", x.ringsAt(0, 43), 391);
        c.due("up to 391: no more", x.ringsAt(0, 44), -9);
        c.due("up to 391: peal", x.peal(399), 0);
        c.due("up to 391: stops", x.stops(), 391);
        x = pulled("vb1b1;001;019", 0, 0, 0);
        c.due("in each of 400", x.rings(0), 400);
        c.due("the first of 400", x.ringsAt(0, 0), 0);
        c.due("the last of 400", x.ringsAt(0, 399), 399);
        c.due("no more than 400", x.ringsAt(0, 400), -9);
        c.due("the other nine later", x.rings(1), 391);
        c.due("the other's first", x.ringsAt(1, 0), 9);
        c.due("both in the last", x.peal(399), 3);
        c.due("one in the first", x.peal(0), 1);
        c.due("minute 400", x.peal(400), -2);
        c.due("minute -1", x.peal(-1), -2);
    }

    private static void sixPulls() {
        RopedBells x = Check.with("vb1g3");
        for (int k = 0; k < 6; k++) {
            c.due("many pulls", x.many(2), k);
            c.due("number", x.pull(0, 20 * k - k % 2), k);
            c.due("each is heard", x.rings(0), k + 1);
            c.due("the last at", x.ringsAt(0, k), 20 * k - k % 2);
        }
        c.due("a seventh", x.pull(0, 50), -4);
        c.due("not heard", x.rings(0), 6);
        c.due("none of six taken back", x.undo(0), 6);
        c.due("seven of six", x.undo(7), -2);
        c.due("the last of six", x.undo(1), 5);
        c.due("five are heard", x.rings(0), 5);
        c.due("the last is gone", x.peal(99), 0);
        c.due("a sixth again", x.pull(1, 3), 5);
        c.due("all six", x.undo(6), 0);
        c.due("none is heard", x.stops(), -9);
        c.due("one of none", x.undo(1), -2);
        c.due("none of none", x.undo(0), 0);
        c.due("from 0 on again", x.pull(0, 0), 0);
    }

    private static void nothingThere() {
        RopedBells x = Check.with("vb1d1;011;001");
        c.due("no pulls: rings", x.rings(0) + x.rings(1), 0);
        c.due("no pulls: ringsAt", x.ringsAt(0, 0), -9);
        c.due("no pulls: peal", x.peal(0) + x.peal(399), 0);
        c.due("no pulls: stops", x.stops(), -9);
        x.tie(0, true);
        x.tie(1, true);
        x.pull(0, 0);
        x.pull(1, 0);
        x.pull(1, 0);
        c.due("all tied: rings", x.rings(0) + x.rings(1), 0);
        c.due("all tied: stops", x.stops(), -9);
        x = pulled("vb1b1", 2, 0, 0);
        c.due("no ropes: it rings", x.rings(0), 1);
        c.due("no ropes: the other does not", x.rings(1), 0);
    }

    private static void allSixRing() {
        RopedBells x = pulled("vb1b1b1b1b1b1", 2, 0, 9, 1, 9, 2, 9, 3, 9, 4, 9, 5, 9);
        c.due("all six in a minute", x.peal(9), 63);
        c.due("none ahead", x.peal(8), 0);
        x.tie(5, true);
        c.due("five of them", x.peal(9), 31);
        c.due("bell 5", x.rings(5), 0);
        c.due("no bell 6", x.rings(6), -1);
        c.due("no bell 6 at any time", x.ringsAt(6, 0), -1);
        x.tie(5, false);
        c.due("all six again", x.peal(9), 63);
    }

    private static void longRopes() {
        for (int minutes = 1; minutes <= 9; minutes++) {
            RopedBells x = pulled("vb1b1;01" + minutes, 0, 0, 99, 0, 0);
            c.due("LONG " + minutes + " behind 0", x.ringsAt(1, 0), minutes);
            c.due("LONG " + minutes + " behind 99", x.ringsAt(1, 1), 99 + minutes);
            c.due("no more", x.ringsAt(1, 2), -9);
            x = pulled("vb1b1;00" + minutes, 0, 0, 0);
            c.due("to itself each " + minutes, x.rings(0), 1 + 399 / minutes);
        }
    }

    /** An object is used for at most 512 calls: the last one of them is as due, too. */
    private static void fiveHundredAndTwelveCalls() {
        RopedBells x = pulled("vb1b1b1b1b1b1;001;115;121;232;343;454;501;053", 5, 0, 0, 1, 1, 2, 2);
        // So far: sheet, 45 puts, valley, span, three pulls.
        int used = 1 + 45 + 1 + 1 + 3;
        int still = x.still(50);
        int hung = x.hung(1);
        long upper = x.sneezes(0);
        for (used += 3; used + 3 <= 512; used += 3) {
            c.due("still, call " + used, x.still(50), still);
            c.due("hung, call " + used, x.hung(1), hung);
            c.due("sneezes, call " + used, x.sneezes(0), upper);
        }
        c.due("all ring, whatever rope", hung, 6);
        c.due("calls", used, 510);
        c.due("call 511", x.rings(0), 400);
        c.due("call 512", x.fault(), 0);
    }
}
