/** Promises 28 to 31 and 33: TELLING, HAILED, kinds, TRACE, how many. */
public final class PartsTest {
    private static final Check c = new Check("PartsTest");

    public static void main(String[] args) {
        promise28Tell();
        promise29Hail();
        promise30As();
        promise31Trace();
        promise33Many();
        c.end();
    }

    private static int traceOf(int... numbers) {
        int trace = 0;
        for (int number : numbers) {
            trace = 31 * trace + number;
        }
        return trace;
    }

    private static void promise28Tell() {
        RopedBells x = Check.with("vb3g1d2");
        c.due("BELL", x.tell(0), 3);
        c.due("trace of BELL", x.trace(), traceOf(1));
        c.due("GREAT", x.tell(1), 101);
        c.due("trace of GREAT", x.trace(), traceOf(1, 2, 1));
        c.due("DEAF", x.tell(2), 104);
        c.due("trace of DEAF", x.trace(), traceOf(1, 2, 1, 3, 2, 1, 1));
        c.due("no bell 3", x.tell(3), -1);
        c.due("no bell -1", x.tell(-1), -1);
        c.due("trace stays", x.trace(), traceOf(1, 2, 1, 3, 2, 1, 1));
        x.tie(0, true);
        c.due("a tied one tells, too", x.tell(0), 3);
        c.due("no valley", new RopedBells().tell(0), -1);
    }

    private static void promise29Hail() {
        RopedBells x = Check.with("vd3b3g1b2d1");
        c.due("DEAF", x.hail(0), 90);
        c.due("trace of DEAF", x.trace(), traceOf(5));
        c.due("BELL", x.hail(1), 1);
        c.due("trace of BELL", x.trace(), traceOf(5, 4));
        c.due("GREAT", x.hail(2), 2);
        c.due("trace of GREAT", x.trace(), traceOf(5, 4, 4));
        c.due("BELL 3", x.hail(3), 3);
        c.due("DEAF 4", x.hail(4), 90);
        c.due("no bell 5", x.hail(5), -1);
        c.due("no bell -1", x.hail(-1), -1);
        c.due("trace stays", x.trace(), traceOf(5, 4, 4, 4, 5));
        c.due("no valley", new RopedBells().hail(0), -1);
    }

    private static void promise30As() {
        RopedBells x = Check.with("vb1g1d1");
        for (int b = 0; b < 3; b++) {
            for (int kind = 0; kind < 3; kind++) {
                c.due("as(" + b + ", " + kind + ")", x.as(b, kind), kind <= b ? 1 : -12);
                c.due("fault()", x.fault(), kind <= b ? 0 : 2);
            }
        }
        c.due("no bell 3, kind 3", x.as(3, 3), -1);
        c.due("no bell -1", x.as(-1, 0), -1);
        c.due("kind 3", x.as(2, 3), -2);
        c.due("kind -1", x.as(0, -1), -2);
        c.due("trace stays", x.trace(), 0);
        c.due("no valley", new RopedBells().as(0, 0), -1);
        c.due("no valley, kind 3", new RopedBells().as(0, 3), -1);
    }

    private static void promise31Trace() {
        RopedBells x = Check.with("vb1d1");
        c.due("0 at first", x.trace(), 0);
        int want = 0;
        for (int k = 0; k < 20; k++) {
            x.tell(1);
            x.hail(0);
            want = 31 * (31 * (31 * (31 * (31 * want + 3) + 2) + 1) + 1) + 4;
            c.due("it wraps", x.trace(), want);
        }
        c.due("and asking changes nothing", x.trace(), want);
        Check.take(x, "vg1g1");
        c.due("nor does a new valley", x.trace(), want);
        c.due("of a new object", new RopedBells().trace(), 0);
    }

    private static void many(RopedBells x, int bells, int ropes, int pulls, int readings, int span) {
        int[] want = {bells, ropes, pulls, readings, span};
        for (int what = 0; what < 5; what++) {
            c.due("many(" + what + ")", x.many(what), want[what]);
        }
        c.due("many(5)", x.many(5), -2);
        c.due("many(-1)", x.many(-1), -2);
    }

    private static void promise33Many() {
        RopedBells x = new RopedBells();
        many(x, 0, 0, 0, 0, 0);
        Check.take(x, "vb1");
        many(x, 0, 0, 0, 0, 0);
        Check.take(x, "vb1b1b1;012");
        many(x, 3, 1, 0, 0, 2);
        x.pull(0, 0);
        x.pull(0, 0);
        x.reading(0, 0, true);
        x.reading(0, 0, true);
        x.reading(0, 0, true);
        x.span(0);
        many(x, 3, 1, 2, 3, 0);
        x.undo(1);
        x.back(1);
        x.span(5);
        many(x, 3, 1, 1, 2, 5);
    }
}
