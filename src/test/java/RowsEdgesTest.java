/** ==== 5, SHEETS, LANES, copies, TELLING, HAILED, TRACE, FAULTS: the bounds that their sentences name. */
public final class RowsEdgesTest {
    private static final int MAX = Integer.MAX_VALUE, MIN = Integer.MIN_VALUE;
    private static final long LOST = Long.MIN_VALUE;

    private static final Check c = new Check("RowsEdgesTest");

    public static void main(String[] args) {
        nothingAtFirst();
        eachSizeOfEachLane();
        emptyRows();
        zeroAtFirstAgain();
        loseAndBegin();
        cutToTheLane();
        cellsApart();
        copiesCut();
        copiesOfWholeRows();
        copiesOfNone();
        copiesOverlap();
        tellings();
        hails();
        casts();
        traceWraps();
        faultsOneByOne();
        c.end();
    }

    /** A SHEET that has nothing: no FAULT but NULL, for each LANE that is asked for. */
    private static void nothingAtFirst() {
        RopedBells x = new RopedBells();
        c.due("no FAULT ahead of any", x.fault(), 0);
        for (int k = 0; k < 4; k++) {
            for (int lane = 0; lane < 3; lane++) {
                c.due("cell of nothing", x.cell(k, 0, lane), LOST);
                c.due("cell of nothing, fault()", x.fault(), 1);
                c.due("valley of nothing", x.valley(k, lane, 0, 0), -11);
            }
            c.due("put to nothing", x.put(k, 0, 0), -11);
            c.due("copy of nothing", x.copy(k, 0, k, 0, 0), -11);
            c.due("it had nothing", x.lose(k), 0);
        }
        c.due("no BELLS", x.many(0), 0);
        c.due("no ROPES", x.many(1), 0);
        c.due("no PULLS", x.many(2), 0);
        c.due("no READINGS", x.many(3), 0);
        c.due("no SPAN", x.many(4), 0);
        c.due("TRACE", x.trace(), 0);
    }

    /** Rows of 0 .. 60 numbers: the last cell is one, the one behind it is none. */
    private static void eachSizeOfEachLane() {
        for (int lane = 0; lane < 3; lane++) {
            RopedBells x = new RopedBells();
            for (int n = 0; n <= 60; n++) {
                c.due("a row of " + n, x.sheet(n % 4, lane, n), 1);
                if (n > 0) {
                    c.due("its last cell is 0", x.cell(n % 4, n - 1, lane), 0);
                    c.due("its last cell becomes 1", x.put(n % 4, n - 1, 1), 1);
                }
                c.due("no cell behind it", x.cell(n % 4, n, lane), LOST);
                c.due("no cell behind it, fault()", x.fault(), 3);
                c.due("no put behind it", x.put(n % 4, n, 1), -13);
            }
            c.due("a row of 61", x.sheet(0, lane, 61), -2);
            c.due("the row of 60 stays", x.cell(0, 59, lane), 1);
            c.due("a row of -1", x.sheet(0, lane, -1), -14);
            c.due("it stays still", x.cell(0, 59, lane), 1);
        }
    }

    /** A row of 0 numbers is not nothing. */
    private static void emptyRows() {
        for (int lane = 0; lane < 3; lane++) {
            RopedBells x = Check.with("vb1b1");
            x.sheet(3, lane, 0);
            c.due("no cell 0", x.cell(3, 0, lane), LOST);
            c.due("INDEX, not NULL", x.fault(), 3);
            c.due("another lane", x.cell(3, 0, (lane + 1) % 3), LOST);
            c.due("CAST ahead of INDEX", x.fault(), 2);
            c.due("put", x.put(3, 0, 0), -13);
            c.due("no TEXT", x.valley(3, lane, 0, 0), -100);
            c.due("no TEXT, of another lane", x.valley(3, (lane + 2) % 3, 0, 0), -12);
            c.due("one code", x.valley(3, lane, 0, 1), -13);
            c.due("no TUNE", x.tune(3, lane, 0, 0), -2);
            c.due("one note", x.tune(3, lane, 0, 1), -13);
            c.due("copy of none to itself", x.copy(3, 0, 3, 0, 0), 0);
            c.due("copy of one to itself", x.copy(3, 0, 3, 0, 1), -13);
            c.due("copy of none from 1 on", x.copy(3, 1, 3, 0, 0), -13);
            c.due("it has a row", x.lose(3), 1);
            c.due("it has nothing", x.lose(3), 0);
            c.due("NULL then", x.put(3, 0, 0), -11);
        }
    }

    private static void zeroAtFirstAgain() {
        RopedBells x = new RopedBells();
        x.sheet(2, 2, 60);
        for (int i = 0; i < 60; i++) {
            x.put(2, i, -1 - i);
        }
        c.due("the last one", x.cell(2, 59, 2), -60);
        x.sheet(2, 2, 60);
        for (int i = 0; i < 60; i++) {
            c.due("0 at first, cell " + i, x.cell(2, i, 2), 0);
        }
        x.put(2, 59, 7);
        x.sheet(2, 2, 59);
        x.sheet(2, 2, 60);
        c.due("0 at first behind a shorter one", x.cell(2, 59, 2), 0);
    }

    private static void loseAndBegin() {
        RopedBells x = new RopedBells();
        x.sheet(0, 1, 2);
        x.put(0, 1, 9);
        x.sheet(1, 1, 2);
        x.put(1, 1, 8);
        c.due("it had a row", x.lose(0), 1);
        c.due("nothing", x.cell(0, 1, 1), LOST);
        c.due("nothing: NULL", x.fault(), 1);
        c.due("nothing is no CAST", x.cell(0, 1, 2), LOST);
        c.due("nothing: NULL by another lane", x.fault(), 1);
        c.due("the other one stays", x.cell(1, 1, 1), 8);
        c.due("it had nothing", x.lose(0), 0);
        c.due("a row again", x.sheet(0, 1, 2), 1);
        c.due("0 at first", x.cell(0, 1, 1), 0);
    }

    /** What comes to a cell is cut to its LANE, with its sign. */
    private static void cutToTheLane() {
        int[] put = {-129, -128, -127, -1, 0, 1, 126, 127, 128, 129, 255, 256, 257, 383, 384, -256, -257, -32769, -32768,
            -32767, 32766, 32767, 32768, 65535, 65536, 65537, 98303, 98304, MAX, MAX - 1, MIN, MIN + 1};
        long[] bytes = {127, -128, -127, -1, 0, 1, 126, 127, -128, -127, -1, 0, 1, 127, -128, 0, -1, -1, 0,
            1, -2, -1, 0, -1, 0, 1, -1, 0, -1, -2, 0, 1};
        long[] shorts = {-129, -128, -127, -1, 0, 1, 126, 127, 128, 129, 255, 256, 257, 383, 384, -256, -257, 32767, -32768,
            -32767, 32766, 32767, -32768, -1, 0, 1, 32767, -32768, -1, -2, 0, 1};
        for (int k = 0; k < put.length; k++) {
            RopedBells x = new RopedBells();
            long[] due = {bytes[k], shorts[k], put[k]};
            for (int lane = 0; lane < 3; lane++) {
                x.sheet(lane, lane, 1);
                c.due("put " + put[k], x.put(lane, 0, put[k]), 1);
                c.due(put[k] + " in lane " + lane, x.cell(lane, 0, lane), due[lane]);
            }
        }
    }

    private static void cellsApart() {
        RopedBells x = new RopedBells();
        for (int k = 0; k < 4; k++) {
            x.sheet(k, k % 3, 60);
        }
        x.put(0, 0, 1);
        x.put(1, 59, 2);
        x.put(2, 30, 3);
        long sum = 0;
        for (int k = 0; k < 4; k++) {
            for (int i = 0; i < 60; i++) {
                sum += x.cell(k, i, k % 3) * (1000 * k + i);
            }
        }
        c.due("no other cell is changed", sum, 2 * 1059 + 3 * 2030);
    }

    /** As they were: of unlike LANES there is none, so that nothing is cut. */
    private static void copiesCut() {
        for (int lane = 0; lane < 3; lane++) {
            RopedBells x = new RopedBells();
            x.sheet(0, lane, 2);
            x.sheet(3, lane, 60);
            x.put(0, 0, MIN + 200);
            x.put(0, 1, MAX);
            c.due("to the last cells", x.copy(0, 0, 3, 58, 2), 2);
            c.due("the first of them", x.cell(3, 58, lane), x.cell(0, 0, lane));
            c.due("the last of them", x.cell(3, 59, lane), lane == 2 ? MAX : -1);
            c.due("the one ahead", x.cell(3, 57, lane), 0);
            c.due("back from there", x.copy(3, 57, 0, 0, 2), 2);
            c.due("the one ahead came", x.cell(0, 0, lane), 0);
            c.due("and the first of them", x.cell(0, 1, lane), x.cell(3, 58, lane));
            for (int other = 0; other < 3; other++) {
                x.sheet(1, other, 2);
                c.due("to lane " + other, x.copy(0, 0, 1, 0, 1), other == lane ? 1 : -12);
                c.due("from lane " + other, x.copy(1, 0, 0, 0, 1), other == lane ? 1 : -12);
            }
        }
    }

    private static void fill(RopedBells x, int k, int n, int first) {
        x.sheet(k, 2, n);
        for (int i = 0; i < n; i++) {
            x.put(k, i, first + i);
        }
    }

    private static void copiesOfWholeRows() {
        RopedBells x = new RopedBells();
        fill(x, 0, 60, 100);
        x.sheet(1, 2, 60);
        c.due("all sixty", x.copy(0, 0, 1, 0, 60), 60);
        for (int i = 0; i < 60; i++) {
            c.due("cell " + i, x.cell(1, i, 2), 100 + i);
        }
        c.due("sixty-one", x.copy(0, 0, 1, 0, 61), -13);
        c.due("sixty from 1 on", x.copy(0, 1, 1, 0, 60), -13);
        c.due("sixty to 1 on", x.copy(0, 0, 1, 1, 60), -13);
        c.due("the last cell to the first", x.copy(0, 59, 1, 0, 1), 1);
        c.due("it is", x.cell(1, 0, 2), 159);
        c.due("the first cell to the last", x.copy(0, 0, 1, 59, 1), 1);
        c.due("it is, too", x.cell(1, 59, 2), 100);
        c.due("none beyond", x.copy(0, 60, 1, 0, 1), -13);
        c.due("to none beyond", x.copy(0, 0, 1, 60, 1), -13);
    }

    /** Also where none is taken, i and j are 0 .. how many there are. */
    private static void copiesOfNone() {
        RopedBells x = new RopedBells();
        x.sheet(0, 0, 3);
        x.sheet(1, 0, 5);
        for (int i = -2; i <= 5; i++) {
            for (int j = -2; j <= 7; j++) {
                boolean there = i >= 0 && i <= 3 && j >= 0 && j <= 5;
                c.due("none from " + i + " to " + j, x.copy(0, i, 1, j, 0), there ? 0 : -13);
                c.due("none from " + i + " to " + j + ", fault()", x.fault(), there ? 0 : 3);
            }
        }
    }

    private static void copiesOverlap() {
        for (int by = -3; by <= 3; by++) {
            RopedBells x = new RopedBells();
            fill(x, 0, 9, 1);
            c.due("three by " + by, x.copy(0, 3, 0, 3 + by, 3), 3);
            for (int i = 0; i < 9; i++) {
                int from = i - by;
                int due = from >= 3 && from < 6 ? 1 + from : 1 + i;
                c.due("by " + by + ", cell " + i, x.cell(0, i, 2), due);
            }
        }
    }

    private static void tellings() {
        String[] bells = {"b1", "b2", "b3", "g1", "g2", "g3", "d1", "d2", "d3"};
        int[] told = {1, 2, 3, 101, 102, 103, 102, 104, 106};
        int[] trace = {1, 1, 1, 63, 63, 63, 91327, 91327, 91327};
        for (int k = 0; k < bells.length; k++) {
            RopedBells x = Check.with("vb1" + bells[k]);
            c.due(bells[k] + " tells", x.tell(1), told[k]);
            // 1; 2, 1; 3, 2, 1, 1
            c.due(bells[k] + " leaves", x.trace(), trace[k]);
        }
    }

    private static void hails() {
        for (int b = 0; b < 6; b++) {
            RopedBells x = Check.with("vb1g1d1b3g3d3");
            boolean deaf = b % 3 == 2;
            c.due("hail " + b, x.hail(b), deaf ? 90 : b);
            c.due("hail leaves", x.trace(), deaf ? 5 : 4);
            c.due("hail again", x.hail(b), deaf ? 90 : b);
            c.due("hail leaves both", x.trace(), deaf ? 160 : 128);
            c.due("no bell 6", x.hail(6), -1);
            c.due("it leaves nothing", x.trace(), deaf ? 160 : 128);
        }
    }

    /** A GREAT one is a BELL, a DEAF one is a GREAT one; none is of a kind that goes further. */
    private static void casts() {
        RopedBells x = Check.with("vb1g1d1");
        int[][] due = {{1, -12, -12}, {1, 1, -12}, {1, 1, 1}};
        for (int b = 0; b < 3; b++) {
            for (int kind = 0; kind < 3; kind++) {
                x.put(3, 0, 0);
                c.due(b + " as " + kind, x.as(b, kind), due[b][kind]);
                c.due(b + " as " + kind + ", fault()", x.fault(), due[b][kind] == 1 ? 0 : 2);
                c.due("its kind stays", x.ofBell(b, 0), b);
            }
            c.due("as -1", x.as(b, -1), -2);
            c.due("as 3", x.as(b, 3), -2);
        }
        c.due("no part tells by it", x.trace(), 0);
    }

    /** TRACE is an int that wraps: by six fours it is 118333824, by a seventh 3668348548, which is cut. */
    private static void traceWraps() {
        RopedBells x = Check.with("vb1b1");
        for (int k = 0; k < 6; k++) {
            x.hail(0);
        }
        c.due("just not wrapped", x.trace(), 118333824);
        x.hail(1);
        c.due("wrapped", x.trace(), -626618748);
        c.due("asking leaves nothing", x.trace(), -626618748);
    }

    /** fault() tells that of the latest call that names one, again and again; 0 behind one that came to none. */
    private static void faultsOneByOne() {
        RopedBells x = Check.with("vb1b1");
        x.sheet(1, 1, 2);
        long[] got = {x.put(3, 0, 0), x.fault(), x.fault(), x.as(0, 1), x.fault(), x.put(1, 2, 0), x.fault(),
            x.sheet(1, 1, -1), x.fault(), x.fault(), x.put(1, 1, 0), x.fault()};
        long[] due = {-11, 1, 1, -12, 2, -13, 3, -14, 4, 4, 1, 0};
        for (int k = 0; k < due.length; k++) {
            c.due("faults one by one, " + k, got[k], due[k]);
        }
    }
}
