/** Promises 23 to 27 and 32: SHEETS and the FAULTS. */
public final class SheetsTest {
    private static final Check c = new Check("SheetsTest");
    private static final long LOST = RopedBells.LOST;
    private static final int MAX = Integer.MAX_VALUE, MIN = Integer.MIN_VALUE;

    public static void main(String[] args) {
        promise23Sheet();
        promise24Lose();
        promise25Put();
        promise25Lanes();
        promise26Cell();
        promise27Copy();
        promise27Overlaps();
        promise27Refusals();
        promise32Fault();
        promise32OfEachCall();
        c.end();
    }

    private static void promise23Sheet() {
        RopedBells x = new RopedBells();
        c.due("a new row", x.sheet(0, 0, 60), 1);
        c.due("its last cell", x.cell(0, 59, 0), 0);
        c.due("no cell 60", x.cell(0, 60, 0), LOST);
        c.due("an empty row", x.sheet(3, 2, 0), 1);
        c.due("it has no cell", x.put(3, 0, 1), -13);
        x.put(0, 7, 5);
        c.due("a shorter one in its place", x.sheet(0, 0, 8), 1);
        c.due("0 at first", x.cell(0, 7, 0), 0);
        c.due("no cell 8", x.put(0, 8, 1), -13);
        x.put(0, 7, 5);
        c.due("of another lane", x.sheet(0, 1, 9), 1);
        c.due("0 at first, shorts", x.cell(0, 7, 1), 0);
        c.due("bytes no more", x.cell(0, 7, 0), LOST);
        x.put(0, 7, 5);
        c.due("no sheet 4", x.sheet(4, 3, 61), -1);
        c.due("no sheet -1", x.sheet(-1, 0, 1), -1);
        c.due("lane 3", x.sheet(0, 3, -1), -2);
        c.due("lane -1", x.sheet(0, -1, 1), -2);
        c.due("n 61", x.sheet(0, 0, 61), -2);
        c.due("n far above", x.sheet(0, 0, MAX), -2);
        c.due("fault() when refused", x.fault(), 0);
        c.due("n -1", x.sheet(0, 0, -1), -14);
        c.due("fault() SIZE", x.fault(), 4);
        c.due("n far below", x.sheet(0, 2, MIN), -14);
        c.due("the row stays", x.cell(0, 7, 1), 5);
        c.due("nothing stays nothing", x.sheet(1, 0, -1) * 10 + x.lose(1), -140);
    }

    private static void promise24Lose() {
        RopedBells x = new RopedBells();
        for (int k = 0; k < 4; k++) {
            c.due("nothing", x.lose(k), 0);
            x.sheet(k, k % 3, k);
        }
        for (int k = 0; k < 4; k++) {
            c.due("a row", x.lose(k), 1);
            c.due("nothing any more", x.lose(k), 0);
            c.due("no cell", x.put(k, 0, 0), -11);
            c.due("others keep theirs", x.put(3, 0, 0), k < 3 ? 1 : -11);
        }
        c.due("no sheet 4", x.lose(4), -1);
        c.due("no sheet -1", x.lose(-1), -1);
    }

    private static void promise25Put() {
        RopedBells x = new RopedBells();
        x.sheet(2, 2, 3);
        c.due("cell 0", x.put(2, 0, MIN), 1);
        c.due("cell 2", x.put(2, 2, MAX), 1);
        c.due("cell 0 is", x.cell(2, 0, 2), MIN);
        c.due("cell 1 is", x.cell(2, 1, 2), 0);
        c.due("cell 2 is", x.cell(2, 2, 2), MAX);
        c.due("no sheet 4", x.put(4, 0, 0), -1);
        c.due("no sheet -1", x.put(-1, 9, 0), -1);
        c.due("fault() when refused", x.fault(), 0);
        c.due("NULL ahead of INDEX", x.put(1, -1, 0), -11);
        c.due("fault() NULL", x.fault(), 1);
        c.due("no cell 3", x.put(2, 3, 1), -13);
        c.due("fault() INDEX", x.fault(), 3);
        c.due("no cell -1", x.put(2, -1, 1), -13);
        c.due("no cell MIN", x.put(2, MIN, 1), -13);
        c.due("no cell MAX", x.put(2, MAX, 1), -13);
        c.due("cell 2 stays", x.cell(2, 2, 2), MAX);
    }

    private static void promise25Lanes() {
        int[] put = {127, 128, -128, -129, 255, 256, 300, 32767, 32768, -32768, -32769, 65535, 70001, MAX, MIN};
        RopedBells x = new RopedBells();
        for (int lane = 0; lane < 3; lane++) {
            x.sheet(lane, lane, 20);
            for (int i = 0; i < put.length; i++) {
                x.put(lane, i, put[i]);
                long want = lane == 0 ? (byte) put[i] : lane == 1 ? (short) put[i] : put[i];
                c.due(put[i] + " cut to lane " + lane, x.cell(lane, i, lane), want);
            }
        }
        c.due("300 as a byte", x.cell(0, 6, 0), 44);
        c.due("128 as a byte", x.cell(0, 1, 0), -128);
        c.due("70001 as a short", x.cell(1, 12, 1), 4465);
        c.due("32768 as a short", x.cell(1, 8, 1), -32768);
    }

    private static void promise26Cell() {
        RopedBells x = new RopedBells();
        x.sheet(1, 1, 2);
        x.put(1, 1, -7);
        c.due("a cell", x.cell(1, 1, 1), -7);
        c.due("no sheet 4", x.cell(4, 0, 0), LOST);
        c.due("no sheet -1", x.cell(-1, 0, 3), LOST);
        c.due("lane 3", x.cell(1, 0, 3), LOST);
        c.due("lane -1 of nothing", x.cell(0, 0, -1), LOST);
        c.due("fault() when refused", x.fault(), 0);
        c.due("CAST ahead of INDEX", x.cell(1, 9, 0), LOST);
        c.due("fault() CAST", x.fault(), 2);
        c.due("CAST to ints", x.cell(1, 0, 2), LOST);
        c.due("fault() CAST to ints", x.fault(), 2);
        c.due("nothing is no CAST", x.cell(0, -1, 0), LOST);
        c.due("fault() NULL", x.fault(), 1);
        c.due("no cell 2", x.cell(1, 2, 1), LOST);
        c.due("fault() INDEX", x.fault(), 3);
        c.due("no cell -1", x.cell(1, -1, 1), LOST);
        c.due("fault() INDEX below", x.fault(), 3);
        c.due("no cell MIN", x.cell(1, MIN, 1), LOST);
        c.due("a cell again", x.cell(1, 0, 1), 0);
        c.due("fault() of none", x.fault(), 0);
    }

    private static void row(RopedBells x, int sheet, int... cells) {
        for (int i = 0; i < cells.length; i++) {
            c.due("sheet " + sheet + ", cell " + i, x.cell(sheet, i, 2), cells[i]);
        }
        c.due("sheet " + sheet + " has no more", x.cell(sheet, cells.length, 2), LOST);
    }

    private static RopedBells twoRows() {
        RopedBells x = new RopedBells();
        x.sheet(0, 2, 5);
        x.sheet(1, 2, 4);
        for (int i = 0; i < 5; i++) {
            x.put(0, i, i + 1);
        }
        return x;
    }

    private static void promise27Copy() {
        RopedBells x = twoRows();
        c.due("two of them", x.copy(0, 1, 1, 2, 2), 2);
        row(x, 1, 0, 0, 2, 3);
        row(x, 0, 1, 2, 3, 4, 5);
        c.due("none, at both ends", x.copy(0, 5, 1, 4, 0), 0);
        c.due("fault() of none", x.fault(), 0);
        c.due("a whole row", x.copy(1, 0, 0, 1, 4), 4);
        row(x, 0, 1, 0, 0, 2, 3);
        x.sheet(2, 0, 3);
        x.put(2, 0, 200);
        x.sheet(3, 0, 3);
        c.due("bytes", x.copy(2, 0, 3, 2, 1), 1);
        c.due("as bytes", x.cell(3, 2, 0), -56);
    }

    private static void promise27Overlaps() {
        RopedBells x = twoRows();
        c.due("upwards", x.copy(0, 0, 0, 1, 4), 4);
        row(x, 0, 1, 1, 2, 3, 4);
        c.due("downwards", x.copy(0, 2, 0, 0, 3), 3);
        row(x, 0, 2, 3, 4, 3, 4);
        c.due("onto itself", x.copy(0, 0, 0, 0, 5), 5);
        row(x, 0, 2, 3, 4, 3, 4);
    }

    private static void index(RopedBells x, int i, int j, int n) {
        c.due("copy INDEX " + i + " " + j + " " + n, x.copy(0, i, 1, j, n), -13);
        c.due("fault() INDEX", x.fault(), 3);
    }

    private static void promise27Refusals() {
        RopedBells x = twoRows();
        x.sheet(2, 1, 2);
        c.due("no sheet 4", x.copy(4, 0, 3, 0, 0), -1);
        c.due("no other sheet 4", x.copy(3, 0, 4, 0, 0), -1);
        c.due("no sheet -1", x.copy(-1, 0, 0, 0, 0), -1);
        c.due("no other sheet -1", x.copy(0, 0, -1, 0, 0), -1);
        c.due("fault() when refused", x.fault(), 0);
        c.due("NULL", x.copy(3, -1, 2, 0, 0), -11);
        c.due("NULL of the other", x.copy(0, -1, 3, 0, 0), -11);
        c.due("NULL of both", x.copy(3, 0, 3, 0, 0), -11);
        c.due("fault() NULL", x.fault(), 1);
        c.due("CAST ahead of INDEX", x.copy(0, -1, 2, 9, -1), -12);
        c.due("fault() CAST", x.fault(), 2);
        c.due("CAST of none", x.copy(2, 0, 0, 0, 0), -12);
        index(x, -1, 0, 1);
        index(x, 0, -1, 1);
        index(x, 0, 0, -1);
        index(x, 0, 0, MIN);
        index(x, 0, 0, 5);
        index(x, 1, 0, 5);
        index(x, 5, 0, 1);
        index(x, 0, 4, 1);
        index(x, 6, 0, 0);
        index(x, 0, 5, 0);
        index(x, -1, 0, 0);
        index(x, 0, -1, 0);
        index(x, 1, 1, MAX);
        index(x, MAX, 1, MAX);
        index(x, MIN, 0, MIN);
        row(x, 0, 1, 2, 3, 4, 5);
        row(x, 1, 0, 0, 0, 0);
    }

    private static void promise32Fault() {
        RopedBells x = new RopedBells();
        c.due("ahead of any", x.fault(), 0);
        x.put(0, 0, 0);
        c.due("NULL", x.fault(), 1);
        c.due("and again", x.fault(), 1);
        x.rings(0);
        x.ofBell(0, 0);
        x.ofRope(0, 0);
        x.tie(0, true);
        x.span(1);
        x.pull(0, 0);
        x.undo(9);
        x.ringsAt(0, 0);
        x.peal(0);
        x.stops();
        x.fewest(0);
        x.still(0);
        x.hung(0);
        x.cut();
        x.reading(0, 0, true);
        x.back(9);
        x.first();
        x.gone();
        x.sneezes(0);
        x.lose(0);
        x.tell(0);
        x.hail(0);
        x.trace();
        x.many(0);
        c.due("no other call changes it", x.fault(), 1);
    }

    private static RopedBells faulty() {
        RopedBells x = Check.with("vb1d1");
        x.put(3, 0, 0);
        c.due("a fault", x.fault(), 1);
        return x;
    }

    private static void promise32OfEachCall() {
        RopedBells x = faulty();
        c.due("valley", x.valley(0, 2, 0, 5) * 10 + x.fault(), 20);
        x = faulty();
        c.due("valley refused", x.valley(9, 2, 0, 5) * 10 + x.fault(), -10);
        x = faulty();
        c.due("valley of no text", x.valley(0, 2, 0, 4) * 10 + x.fault(), -1040);
        x = faulty();
        c.due("tune refused", x.tune(0, 2, 0, 1) * 10 + x.fault(), -10);
        RopedBells none = new RopedBells();
        none.put(3, 0, 0);
        c.due("tune without a valley", none.tune(0, 0, 0, 1) * 10 + none.fault(), -30);
        x = faulty();
        c.due("sheet", x.sheet(3, 0, 1) * 10 + x.fault(), 10);
        x = faulty();
        c.due("sheet refused", x.sheet(3, 0, 61) * 10 + x.fault(), -20);
        x = faulty();
        c.due("put", x.put(0, 0, 0) * 10 + x.fault(), 10);
        x = faulty();
        c.due("put refused", x.put(4, 0, 0) * 10 + x.fault(), -10);
        x = faulty();
        c.due("cell", x.cell(0, 0, 2) * 10 + x.fault(), 1180);
        x = faulty();
        c.due("cell refused", x.cell(0, 0, 3), LOST);
        c.due("cell refused, fault()", x.fault(), 0);
        x = faulty();
        c.due("copy", x.copy(0, 0, 0, 0, 0) * 10 + x.fault(), 0);
        x = faulty();
        c.due("copy refused", x.copy(0, 0, 4, 0, 0) * 10 + x.fault(), -10);
        x = faulty();
        c.due("as", x.as(1, 2) * 10 + x.fault(), 10);
        x = faulty();
        c.due("as refused", x.as(2, 0) * 10 + x.fault(), -10);
        x = faulty();
        c.due("as OUTSIDE", x.as(0, 3) * 10 + x.fault(), -20);
        c.due("as CAST", x.as(0, 2) * 10 + x.fault(), -118);
    }
}
