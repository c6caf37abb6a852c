/**
 * ==== 1 and promise 2: behind each beginning of a TEXT every code around those that go on, in each LANE; each length of
 * the longest TEXT; as many BELLS and ROPES as there may be, and one more.
 */
public final class TextEdgesTest {
    private static final int MAX = Integer.MAX_VALUE, MIN = Integer.MIN_VALUE;
    private static final String DIGITS = "0123456789";
    private static final String LONGEST = "vb1g2d3b2b1g3;001;559;012;121;234;345;453;501";
    private static final int CODES_AN_OBJECT = 120;

    private static final Check c = new Check("TextEdgesTest");
    private static int lane;

    public static void main(String[] args) {
        for (lane = 0; lane < 3; lane++) {
            bells();
            ropes();
            asManyAsThereMayBe();
        }
        longestText();
        atTheEndOfARow();
        allSheetsStay();
        madeAnewWhenFull();
        c.end();
    }

    private static int cut(int code) {
        return lane == 0 ? (byte) code : lane == 1 ? (short) code : code;
    }

    private static int[] codes() {
        int[] far = {MIN, MIN + 48, MIN + 49, MIN + 59, MIN + 98, MIN + 118, MAX, MAX - 47, 65536 + 49, 65536 + 118,
            65536 + 98, 65536 + 59, 49 - 65536, (1 << 24) + 49, 32768 + 49};
        int[] codes = new int[700 + far.length];
        for (int k = 0; k < 700; k++) {
            codes[k] = k - 300;
        }
        for (int k = 0; k < far.length; k++) {
            codes[700 + k] = far[k];
        }
        return codes;
    }

    /** Behind the beginning just these codes go on; the text is whole with one of them (whole BELLS), or too short (0). */
    private static void goesOn(String beginning, String with, int whole) {
        RopedBells x = null;
        int left = 0;
        int n = beginning.length();
        for (int code : codes()) {
            if (left == 0) {
                x = laid(beginning);
                left = CODES_AN_OBJECT;
            }
            left--;
            boolean does = cut(code) >= 0 && with.indexOf(cut(code)) >= 0;
            x.put(1, n + 2, code);
            int due = !does ? -100 - n : whole > 0 ? whole : -101 - n;
            c.due("'" + beginning + "' and " + code + " in lane " + lane, x.valley(1, lane, 2, n + 1), due);
            c.due("fault() behind it", x.fault(), 0);
        }
    }

    /** The beginning stands from cell 2 on. */
    private static RopedBells laid(String beginning) {
        RopedBells x = new RopedBells();
        x.sheet(1, lane, beginning.length() + 5);
        for (int i = 0; i < beginning.length(); i++) {
            x.put(1, 2 + i, beginning.charAt(i));
        }
        return x;
    }

    private static void bells() {
        goesOn("", "v", 0);
        goesOn("v", "bgd", 0);
        goesOn("vb", "123", 0);
        goesOn("vg", "123", 0);
        goesOn("vd", "123", 0);
        goesOn("vb1", "bgd", 0);
        goesOn("vd3", "bgd", 0);
        goesOn("vb1g", "123", 2);
        goesOn("vb1d", "123", 2);
        goesOn("vb1g2", "bgd;", 0);
        goesOn("vb1g2d3", "bgd;", 0);
        goesOn("vb1g2d3b2", "bgd;", 0);
        goesOn("vb1g2d3b2b1", "bgd;", 0);
        goesOn("vb1g2d3b2b1d", "123", 6);
        goesOn("vb1g2d3b2b1g3", ";", 0);
    }

    private static void ropes() {
        String bells = "vb1";
        for (int n = 2; n <= 6; n++) {
            bells += "d2";
            String ofBells = DIGITS.substring(0, n);
            goesOn(bells + ";", ofBells, 0);
            goesOn(bells + ";0", ofBells, 0);
            goesOn(bells + ";" + (n - 1), ofBells, 0);
            goesOn(bells + ";" + (n - 1) + (n - 1), "123456789", n);
            goesOn(bells + ";019", ";", 0);
        }
    }

    private static void asManyAsThereMayBe() {
        String seven = "vb1b1;001;012;103;114;005;016;107";
        goesOn(seven, ";", 0);
        goesOn(seven + ";", "01", 0);
        goesOn(seven + ";1", "01", 0);
        goesOn(seven + ";11", "123456789", 2);
        goesOn(seven + ";118", "", 0);
    }

    /** How many codes there are, where it just ends too soon: at every length. */
    private static void longestText() {
        c.due("codes of the longest", LONGEST.length(), 45);
        for (int n = 0; n <= 45; n++) {
            boolean whole = n >= 13 ? n % 4 == 1 : n >= 5 && n % 2 == 1;
            int due = !whole ? -100 - n : n < 13 ? n / 2 : 6;
            RopedBells x = new RopedBells();
            c.due("the first " + n + " codes of the longest", Check.take(x, LONGEST.substring(0, n)), due);
            c.due("bells by it", x.many(0), whole ? due : 0);
            c.due("ropes by it", x.many(1), whole && n > 13 ? (n - 13) / 4 : 0);
            c.due("span by it", x.many(4), whole ? 2 : 0);
        }
    }

    private static void atTheEndOfARow() {
        for (lane = 0; lane < 3; lane++) {
            RopedBells x = new RopedBells();
            x.sheet(3, lane, 60);
            for (int i = 0; i < 45; i++) {
                x.put(3, 15 + i, LONGEST.charAt(i));
            }
            c.due("up to the last cell", x.valley(3, lane, 15, 45), 6);
            c.due("one more than there is", x.valley(3, lane, 15, 46), -13);
            c.due("from one ahead", x.valley(3, lane, 14, 46), -100);
            c.due("the whole row", x.valley(3, lane, 0, 60), -100);
            c.due("none from the row's end on", x.valley(3, lane, 60, 0), -100);
            c.due("none from behind it on", x.valley(3, lane, 61, 0), -13);
            c.due("eight ropes stay", x.many(1), 8);
            c.due("the last is the last told", x.ofRope(7, 0) * 100 + x.ofRope(7, 1) * 10 + x.ofRope(7, 2), 501);
            x = new RopedBells();
            x.sheet(3, lane, 60);
            for (int i = 0; i < 45; i++) {
                x.put(3, i, LONGEST.charAt(i));
            }
            c.due("a code behind the longest", x.valley(3, lane, 0, 46), -145);
            c.due("fifteen codes behind it", x.valley(3, lane, 0, 60), -145);
        }
    }

    private static void allSheetsStay() {
        RopedBells x = new RopedBells();
        x.sheet(1, 0, 1);
        x.put(1, 0, -5);
        x.sheet(2, 1, 60);
        x.put(2, 59, 300);
        x.tell(0);
        Check.take(x, "vb1d1");
        x.hail(1);
        int trace = x.trace();
        c.due("taken again", x.valley(0, 2, 0, 5), 2);
        c.due("sheet 0 stays", x.cell(0, 4, 2), '1');
        c.due("sheet 0 has no more", x.cell(0, 5, 2), RopedBells.LOST);
        c.due("sheet 1 stays", x.cell(1, 0, 0), -5);
        c.due("sheet 2 stays", x.cell(2, 59, 1), 300);
        c.due("sheet 3 has nothing still", x.lose(3), 0);
        c.due("trace stays", x.trace(), trace);
        c.due("trace is not 0", trace, 5);
    }

    /** Nothing is TIED, no PULLS, no READINGS, SPAN 2, also where as many were as there may be. */
    private static void madeAnewWhenFull() {
        RopedBells x = Check.with("vd3d3d3d3d3d3;009;119;229;339;449;559;019;129");
        x.span(5);
        for (int k = 0; k < 6; k++) {
            x.tie(k, true);
            x.pull(k, 99);
            x.reading(k, 399, true);
        }
        c.due("six pulls", x.many(2), 6);
        c.due("six readings", x.many(3), 6);
        c.due("none is so", x.first(), 0);
        c.due("a smaller one", Check.take(x, "vb1b1"), 2);
        c.due("two bells", x.many(0), 2);
        c.due("no bell 2", x.ofBell(2, 0), -1);
        c.due("no ropes", x.many(1), 0);
        c.due("no rope 0", x.ofRope(0, 0), -1);
        c.due("no pulls", x.many(2), 0);
        c.due("no readings", x.many(3), 0);
        c.due("all are so", x.first(), 3);
        c.due("span 2", x.many(4), 2);
        for (int b = 0; b < 2; b++) {
            c.due("nothing is tied", x.ofBell(b, 3), 0);
        }
        for (int k = 0; k < 6; k++) {
            c.due("six pulls again", x.pull(1, k), k);
            c.due("six readings again", x.reading(1, k, true), k);
        }
        c.due("it rings by them", x.rings(1), 6);
        c.due("a greater one", Check.take(x, "vb1b1b1b1b1b1"), 6);
        for (int b = 0; b < 6; b++) {
            c.due("nothing is tied of six", x.ofBell(b, 3), 0);
            c.due("bells of the new one", x.ofBell(b, 2), 1);
        }
    }
}
