import java.lang.reflect.InvocationTargetException;
import java.lang.reflect.Method;
import java.util.ArrayList;
import java.util.Arrays;
import java.util.HashMap;
import java.util.List;
import java.util.Map;
import java.util.Random;
import java.util.TreeMap;

/** Runs of 512 random calls (the same ones each time), every answer held against the Oracle's. */
public final class OracleTest {
    private static final int CALLS = 512;
    // The calls that play many courses are rarer: the Oracle is slow.
    private static final String[] CHEAP = {
        "ofBell", "ofRope", "tie", "span", "span", "pull", "pull", "pull", "undo", "rings", "rings", "ringsAt", "ringsAt",
        "peal", "peal", "stops", "reading", "reading", "back", "tune", "tune", "sheet", "lose", "put", "put", "cell",
        "copy", "tell", "hail", "as", "trace", "fault", "many", "valley", "fault"};
    private static final String[] DEAR = {"fewest", "still", "hung", "cut", "first", "gone", "sneezes"};

    private final Random random;
    private final RopedBells bells = new RopedBells();
    private final Oracle oracle = new Oracle();
    private final List<String> log = new ArrayList<>();
    private final Map<String, Method> methods;
    private final Map<String, Integer> seen;
    private int calls;

    private OracleTest(long seed, Map<String, Method> methods, Map<String, Integer> seen) {
        random = new Random(seed);
        this.methods = methods;
        this.seen = seen;
    }

    public static void main(String[] args) throws Exception {
        int runs = args.length > 1 ? Integer.parseInt(args[1]) : 250;
        long seed = args.length > 2 ? Long.parseLong(args[2]) : 1;
        Map<String, Method> methods = new HashMap<>();
        for (Method m : RopedBells.class.getDeclaredMethods()) {
            if (java.lang.reflect.Modifier.isPublic(m.getModifiers())) {
                methods.put(m.getName(), m);
            }
        }
        Map<String, Integer> seen = new TreeMap<>();
        int wrong = 0;
        for (int run = 0; run < runs && wrong < 3; run++) {
            if (!new OracleTest(seed + run, methods, seen).isRight()) {
                wrong++;
            }
        }
        System.out.println("OracleTest: " + runs + " runs, " + wrong + " wrong; answers by call: "
            + (args.length > 1 ? seen : seen.size() + " sorts"));
        if (wrong != 0 || runs == 0) {
            System.exit(1);
        }
    }

    private boolean isRight() throws Exception {
        while (calls < CALLS) {
            if (random.nextInt(60) == 0 || calls == 8) {
                if (!layText()) {
                    return false;
                }
                continue;
            }
            if (random.nextInt(60) == 0) {
                if (!layTune()) {
                    return false;
                }
                continue;
            }
            String name = random.nextInt(100) < 6 ? DEAR[random.nextInt(DEAR.length)] : CHEAP[random.nextInt(CHEAP.length)];
            if (!isSame(name, arguments(name))) {
                return false;
            }
        }
        return true;
    }

    private boolean isSame(String name, int... a) throws Exception {
        calls++;
        Method m = methods.get(name);
        Object[] values = new Object[a.length];
        for (int i = 0; i < a.length; i++) {
            values[i] = m.getParameterTypes()[i] == boolean.class ? (Object) (a[i] == 1) : (Object) a[i];
        }
        long got;
        String call = name + Arrays.toString(a);
        try {
            got = ((Number) m.invoke(bells, values)).longValue();
        } catch (InvocationTargetException e) {
            System.out.println(log + " " + call + " threw " + e.getCause());
            return false;
        }
        long want = oracle.call(name, a);
        log.add(call + "=" + want);
        seen.merge(name + (want >= 0 ? "" : " " + Math.max(want, -200)), 1, Integer::sum);
        if (got != want) {
            System.out.println(log + " but the program answered " + got);
            return false;
        }
        return true;
    }

    private boolean layText() throws Exception {
        String text = text();
        int sheet = random.nextInt(4);
        int lane = random.nextInt(3);
        int start = random.nextInt(3);
        if (text.length() + start > 60) {
            start = 0;
        }
        if (!isSame("sheet", sheet, lane, text.length() + start + random.nextInt(61 - start - text.length()))) {
            return false;
        }
        for (int i = 0; i < text.length(); i++) {
            if (!isSame("put", sheet, start + i, text.charAt(i))) {
                return false;
            }
        }
        if (!isSame("valley", sheet, lane, start, text.length())) {
            return false;
        }
        for (int k = random.nextInt(4); k >= 0; k--) {
            if (!isSame("pull", random.nextInt(4), random.nextInt(8)) || !isSame("span", random.nextInt(6))) {
                return false;
            }
        }
        return true;
    }

    private boolean layTune() throws Exception {
        int sheet = random.nextInt(4);
        int lane = random.nextInt(3);
        int n = 1 + random.nextInt(8);
        boolean right = isSame("sheet", sheet, lane, n + 2);
        for (int i = 0; i < n && right; i++) {
            right = isSame("put", sheet, 1 + i, random.nextInt(3));
        }
        return right && isSame("tune", sheet, lane, 1, n) && isSame("tune", sheet, lane, 1, 1 + random.nextInt(n));
    }

    /** A reading that is so by the PULLS, if the bell rings often enough. */
    private int[] trueReading() {
        int b = random.nextInt(4);
        long minute = oracle.call("ringsAt", new int[] {b, random.nextInt(3)});
        return new int[] {b, (int) Math.max(minute, 0), minute < 0 ? 0 : 1};
    }

    private String text() {
        int n = 2 + random.nextInt(5);
        StringBuilder s = new StringBuilder("v");
        for (int b = 0; b < n; b++) {
            s.append("bbbggddd".charAt(random.nextInt(8))).append("111123".charAt(random.nextInt(6)));
        }
        int ropes = random.nextInt(3) == 0 ? 8 : random.nextInt(9);
        int longest = random.nextBoolean() ? 9 : 3;
        for (int r = 0; r < ropes; r++) {
            s.append(';').append(random.nextInt(n)).append(random.nextInt(n)).append(1 + random.nextInt(longest));
        }
        if (random.nextInt(6) == 0) {
            s.setCharAt(random.nextInt(s.length()), "vbgd;0123456789/:<".charAt(random.nextInt(18)));
        }
        if (random.nextInt(8) == 0) {
            s.setLength(random.nextInt(s.length()));
        }
        if (random.nextInt(12) == 0) {
            s.insert(random.nextInt(s.length() + 1), "vbgd;0123456789".charAt(random.nextInt(15)));
        }
        return s.toString();
    }

    private int odd() {
        int[] odd = {Integer.MIN_VALUE, Integer.MAX_VALUE, -1, -2, 1 << 30, 65536, Integer.MIN_VALUE + 1};
        return odd[random.nextInt(odd.length)];
    }

    /** 0 .. most, sometimes just out of it, seldom far out. */
    private int near(int most) {
        int sort = random.nextInt(40);
        return sort == 0 ? odd() : sort == 1 ? -1 : sort == 2 ? most + 1 : random.nextInt(most + 1);
    }

    private int[] arguments(String name) {
        switch (name) {
            case "valley": return new int[] {near(3), near(2), near(3), near(60)};
            case "ofBell": return new int[] {near(5), near(3)};
            case "ofRope": return new int[] {near(7), near(2)};
            case "tie": return new int[] {near(5), random.nextInt(3) == 0 ? 1 : 0};
            case "span": return new int[] {near(5)};
            case "pull": return new int[] {near(5), random.nextBoolean() ? near(99) : near(9)};
            case "undo": return new int[] {random.nextInt(3) == 0 ? near(6) : near(1)};
            case "back": return new int[] {near(6)};
            case "rings": case "tell": case "hail": return new int[] {near(5)};
            case "ringsAt": return new int[] {near(5), random.nextBoolean() ? near(3) : near(399)};
            case "peal": return new int[] {random.nextBoolean() ? near(30) : near(399)};
            case "fewest": return new int[] {near(random.nextBoolean() ? 63 : 3)};
            case "still": return new int[] {random.nextBoolean() ? near(30) : near(398)};
            case "hung": case "sneezes": return new int[] {near(1)};
            case "reading":
                return random.nextBoolean() ? trueReading() : new int[] {near(5), random.nextBoolean() ? near(9) : near(399), random.nextInt(3) == 0 ? 1 : 0};
            case "tune": return new int[] {near(3), near(2), near(9), near(4)};
            case "sheet": return new int[] {near(3), near(2), near(60)};
            case "lose": return new int[] {random.nextInt(3) == 0 ? near(3) : 4};
            case "put": return new int[] {near(3), near(12), random.nextInt(4) == 0 ? random.nextInt() : near(5)};
            case "cell": return new int[] {near(3), near(30), near(2)};
            case "copy": return new int[] {near(3), near(20), near(3), near(20), near(20)};
            case "as": return new int[] {near(5), near(2)};
            case "many": return new int[] {near(4)};
            default: return new int[0];
        }
    }
}
