/** Counts the answers that are not as due, and lays texts and rows into sheets. */
final class Check {
    private final String test;
    private int looked;
    private int wrong;

    Check(String test) {
        this.test = test;
    }

    void due(String what, long got, long want) {
        looked++;
        if (got != want) {
            wrong++;
            System.out.println(test + ": " + what + " answered " + got + ", due is " + want);
        }
    }

    /** Ends the test's process with exit code 1 if an answer was wrong. */
    void end() {
        System.out.println(test + ": " + looked + " answers, " + wrong + " wrong");
        if (wrong != 0 || looked == 0) {
            System.exit(1);
        }
    }

    /** Puts the codes of a text into sheet 0 (ints) and takes them as a valley. */
    static int take(RopedBells x, String text) {
        x.sheet(0, 2, text.length());
        for (int i = 0; i < text.length(); i++) {
            x.put(0, i, text.charAt(i));
        }
        return x.valley(0, 2, 0, text.length());
    }

    static RopedBells with(String text) {
        RopedBells x = new RopedBells();
        int bells = take(x, text);
        if (bells < 2) {
            throw new IllegalStateException("no valley by " + text + ": " + bells);
        }
        return x;
    }

    static int tune(RopedBells x, int... bells) {
        x.sheet(3, 2, bells.length);
        for (int i = 0; i < bells.length; i++) {
            x.put(3, i, bells[i]);
        }
        return x.tune(3, 2, 0, bells.length);
    }
}
