/** Promise 1, the constants and the public face. */
public final class NewObjectTest {
    public static void main(String[] args) {
        Check c = new Check("NewObjectTest");
        c.due("UNKNOWN", RopedBells.UNKNOWN, -1);
        c.due("OUTSIDE", RopedBells.OUTSIDE, -2);
        c.due("STATE", RopedBells.STATE, -3);
        c.due("FULL", RopedBells.FULL, -4);
        c.due("NONE", RopedBells.NONE, -9);
        c.due("LOST", RopedBells.LOST, Long.MIN_VALUE);
        RopedBells x = new RopedBells();
        for (int what = 0; what < 5; what++) {
            c.due("many(" + what + ")", x.many(what), 0);
        }
        for (int k = 0; k < 4; k++) {
            c.due("lose(" + k + ") of a new object", x.lose(k), 0);
        }
        c.due("trace", x.trace(), 0);
        c.due("fault", x.fault(), 0);
        c.due("undo(0) ahead of any", x.undo(0), 0);
        c.due("back(0) ahead of any", x.back(0), 0);
        c.end();
    }
}
