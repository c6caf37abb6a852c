import java.lang.reflect.Method;
import java.util.ArrayList;
import java.util.Arrays;
import java.util.List;

/**
 * Every call with all arguments around its bounds at once, in four states, held against the Oracle: which of several
 * refusals and FAULTS is told, and fault() behind it.
 */
public final class GridTest {
    private static final int MAX = Integer.MAX_VALUE, MIN = Integer.MIN_VALUE;
    private static final int CALLS_AN_OBJECT = 200;
    private static final int[] BELLS = {MIN, -1, 0, 1, 2, 3, 6, MAX};
    private static final int[] MANY = {MIN, -1, 0, 1, 2, 3, 5, 6, 7, MAX};
    private static final int[] SHEETS = {MIN, -1, 0, 1, 2, 3, 4, MAX};
    private static final int[] LANES = {MIN, -1, 0, 1, 2, 3, MAX};
    private static final int[] CELLS = {MIN, -1, 0, 1, 2, 3, 4, 5, MAX};
    private static final int[] EARLY = {MIN, -1, 0, 1, 98, 99, 100, MAX};
    private static final int[] MINUTES = {MIN, -1, 0, 1, 99, 100, 398, 399, 400, MAX};
    private static final int[] WHETHER = {0, 1};

    private static int looked;
    private static int wrong;

    private RopedBells bells;
    private Oracle oracle;
    private final int state;
    private int left;

    private GridTest(int state) {
        this.state = state;
    }

    public static void main(String[] args) throws Exception {
        for (int state = 0; state < 4; state++) {
            GridTest grid = new GridTest(state);
            for (Method m : RopedBells.class.getDeclaredMethods()) {
                if (java.lang.reflect.Modifier.isPublic(m.getModifiers())) {
                    grid.all(m, axes(m.getName()));
                }
            }
        }
        System.out.println("GridTest: " + looked + " answers, " + wrong + " wrong");
        if (wrong != 0 || looked == 0) {
            System.exit(1);
        }
    }

    private static int[][] axes(String name) {
        switch (name) {
            case "valley": case "tune": return new int[][] {SHEETS, LANES, CELLS, CELLS};
            case "ofBell": return new int[][] {BELLS, {MIN, -1, 0, 1, 2, 3, 4, MAX}};
            case "ofRope": return new int[][] {MANY, {MIN, -1, 0, 1, 2, 3, MAX}};
            case "tie": return new int[][] {BELLS, WHETHER};
            case "span": return new int[][] {{MIN, -1, 0, 1, 5, 6, MAX}};
            case "pull": return new int[][] {BELLS, EARLY};
            case "undo": case "back": return new int[][] {MANY};
            case "rings": case "tell": case "hail": return new int[][] {BELLS};
            case "ringsAt": return new int[][] {BELLS, MINUTES};
            case "peal": case "still": return new int[][] {MINUTES};
            case "fewest": return new int[][] {{MIN, -1, 0, 1, 2, 3, 4, 5, 6, 7, 8, 9, 15, 16, 32, 63, 64, MAX}};
            case "hung": case "sneezes": return new int[][] {{MIN, -1, 0, 1, 2, MAX}};
            case "reading": return new int[][] {BELLS, MINUTES, WHETHER};
            case "sheet": return new int[][] {SHEETS, LANES, {MIN, -1, 0, 1, 59, 60, 61, MAX}};
            case "lose": return new int[][] {SHEETS};
            case "put": return new int[][] {SHEETS, CELLS, {MIN, -129, 0, 128, 40000, MAX}};
            case "cell": return new int[][] {SHEETS, CELLS, LANES};
            case "copy": return new int[][] {{-1, 0, 1, 3, 4}, CELLS, {-1, 0, 1, 2, 3, 4}, CELLS, CELLS};
            case "as": return new int[][] {BELLS, LANES};
            case "many": return new int[][] {{MIN, -1, 0, 1, 2, 3, 4, 5, MAX}};
            default: return new int[0][];
        }
    }

    private void all(Method m, int[][] axes) throws Exception {
        int[] at = new int[axes.length];
        boolean more = true;
        while (more) {
            int[] a = new int[axes.length];
            for (int k = 0; k < a.length; k++) {
                a[k] = axes[k][at[k]];
            }
            if (left == 0) {
                begin();
            }
            left--;
            isSame(m, a);
            int k = 0;
            while (k < at.length && ++at[k] == axes[k].length) {
                at[k++] = 0;
            }
            more = k < at.length;
        }
    }

    private void isSame(Method m, int... a) throws Exception {
        Object[] values = new Object[a.length];
        for (int i = 0; i < a.length; i++) {
            values[i] = m.getParameterTypes()[i] == boolean.class ? (Object) (a[i] == 1) : (Object) a[i];
        }
        long got = ((Number) m.invoke(bells, values)).longValue();
        long due = oracle.call(m.getName(), a);
        long fault = bells.fault();
        long dueFault = oracle.call("fault", new int[0]);
        looked += 2;
        if (got != due || fault != dueFault) {
            wrong++;
            System.out.println("state " + state + ": " + m.getName() + Arrays.toString(a) + " answered " + got
                + " (fault " + fault + "), due is " + due + " (fault " + dueFault + ")");
        }
    }

    /** 0: new; 1: rows, but no VALLEY; 2: a VALLEY and a few of all; 3: as many of all as there may be. */
    private void begin() throws Exception {
        bells = new RopedBells();
        oracle = new Oracle();
        left = CALLS_AN_OBJECT;
        List<int[]> puts = new ArrayList<>();
        if (state >= 1) {
            both("sheet", 0, 0, 4);
            both("sheet", 1, 1, 3);
            both("sheet", 2, 2, 60);
            puts.add(new int[] {0, 1, 2});
            puts.add(new int[] {0, 3, -1});
            puts.add(new int[] {1, 0, 1});
        }
        String text = state == 3 ? "vb1g1d1b2g2d2;011;012;103;214;025;341;501;509" : "vb2g1d1;011;122";
        for (int i = 0; state >= 1 && i < text.length(); i++) {
            puts.add(new int[] {2, i, text.charAt(i)});
        }
        for (int[] put : puts) {
            both("put", put);
        }
        if (state >= 2) {
            both("valley", 2, 2, 0, text.length());
            both("tie", 2, 1);
            both("span", 4);
        }
        for (int k = 0; state >= 2 && k < (state == 2 ? 2 : 6); k++) {
            both("pull", k % 3, 3 + k);
            both("reading", k % 2, 390 + k, 0);
        }
    }

    private void both(String name, int... a) throws Exception {
        for (Method m : RopedBells.class.getDeclaredMethods()) {
            if (m.getName().equals(name) && java.lang.reflect.Modifier.isPublic(m.getModifiers())) {
                isSame(m, a);
            }
        }
    }
}
