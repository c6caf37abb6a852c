import com.sun.management.ThreadMXBean;
import java.lang.management.ManagementFactory;

/**
 * All calls of one run live in one room of some 600,000 objects and arrays, 7.3 million fields and elements: a run of
 * 512 calls, whichever call it is, stays far below that. Measured in bytes: no object takes fewer than 16 of them.
 */
public final class RoomTest {
    private static final long BYTES_A_RUN = 9_000_000;
    private static final String TEXT = "vb1g1d1b1b2d2;001;012;122;233;344;451;051;151";
    private static final String[] CALLS = {"rings", "ringsAt", "peal", "stops", "fewest", "still", "hung", "cut", "first",
        "gone", "sneezes", "tune", "valley", "tell", "hail", "copy", "put", "sheet and lose"};

    private static final Check c = new Check("RoomTest");

    public static void main(String[] args) {
        ThreadMXBean threads = (ThreadMXBean) ManagementFactory.getThreadMXBean();
        for (int which = 0; which < CALLS.length; which++) {
            long before = threads.getThreadAllocatedBytes(Thread.currentThread().getId());
            run(which);
            long taken = threads.getThreadAllocatedBytes(Thread.currentThread().getId()) - before;
            c.due(CALLS[which] + " takes " + taken + " bytes, above what a run may", Math.max(taken - BYTES_A_RUN, 0), 0);
        }
        c.end();
    }

    private static void run(int which) {
        RopedBells x = Check.with(TEXT);
        x.sheet(3, 2, 8);
        x.span(5);
        for (int k = 0; k < 6; k++) {
            x.pull(k, k);
            x.reading(k % 2, 10 * k, true);
        }
        for (int k = 0; k < 440; k++) {
            // What an earlier answer was worked out by changes ahead of each call.
            if (k % 2 == 0) {
                x.span(k % 6);
            }
            call(x, which, k);
        }
    }

    private static void call(RopedBells x, int which, int k) {
        switch (which) {
            case 0: x.rings(k % 6); break;
            case 1: x.ringsAt(k % 6, k % 400); break;
            case 2: x.peal(k % 400); break;
            case 3: x.stops(); break;
            case 4: x.fewest(63); break;
            case 5: x.still(k % 399); break;
            case 6: x.hung(k % 2); break;
            case 7: x.cut(); break;
            case 8: x.first(); break;
            case 9: x.gone(); break;
            case 10: x.sneezes(k % 2); break;
            case 11: x.tune(3, 2, 0, 8); break;
            case 12: x.valley(0, 2, 0, TEXT.length()); break;
            case 13: x.tell(k % 6); break;
            case 14: x.hail(k % 6); break;
            case 15: x.copy(0, 0, 0, 1, TEXT.length() - 1); break;
            case 16: x.put(3, k % 8, k); break;
            default: x.sheet(1, 2, 60); x.lose(1);
        }
    }
}
