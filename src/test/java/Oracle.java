import java.util.ArrayList;
import java.util.List;
import java.util.regex.Matcher;
import java.util.regex.Pattern;

/**
 * The document once more, in another and slower way: every swing is looked up from the whole history at each minute,
 * texts are judged by regular expressions, sheets are arrays of their own kind. OracleTest holds the program against it.
 */
final class Oracle {
    private static final int BELL = 0, DEAF = 2;

    private String valley = "";
    private boolean[] tied = {};
    private int span;
    private List<int[]> pulls = new ArrayList<>();
    private List<int[]> readings = new ArrayList<>();
    private final Object[] sheets = new Object[4];
    private int trace;
    private int fault;

    // ---- the text

    private static Pattern grammar(int bells) {
        String digit = "[0-" + (bells - 1) + "]";
        return Pattern.compile("v([bgd][1-3]){" + bells + "}(;" + digit + digit + "[1-9]){0,8}", Pattern.DOTALL);
    }

    private static final Pattern[] GRAMMARS = {grammar(2), grammar(3), grammar(4), grammar(5), grammar(6)};

    private static boolean isText(String s) {
        for (Pattern p : GRAMMARS) {
            if (p.matcher(s).matches()) {
                return true;
            }
        }
        return false;
    }

    private static boolean someTextGoesOn(String s) {
        for (Pattern p : GRAMMARS) {
            Matcher m = p.matcher(s);
            if (m.matches() || m.hitEnd()) {
                return true;
            }
        }
        return false;
    }

    private static int firstFault(String s) {
        if (isText(s)) {
            return -1;
        }
        for (int place = 0; place < s.length(); place++) {
            if (!someTextGoesOn(s.substring(0, place + 1))) {
                return place;
            }
        }
        return s.length();
    }

    private int bells() {
        return (valley.isEmpty() ? 0 : (valley + ";").indexOf(';')) / 2;
    }

    private int kind(int b) {
        return "bgd".indexOf(valley.charAt(1 + 2 * b));
    }

    private int needs(int b) {
        return valley.charAt(2 + 2 * b) - '0';
    }

    private int swingsNeeded(int b) {
        return needs(b) + (kind(b) == BELL ? 0 : 1);
    }

    private List<int[]> ropes() {
        List<int[]> ropes = new ArrayList<>();
        String[] parts = valley.split(";");
        for (int r = 1; r < parts.length; r++) {
            ropes.add(new int[] {parts[r].charAt(0) - '0', parts[r].charAt(1) - '0', parts[r].charAt(2) - '0'});
        }
        return ropes;
    }

    private boolean isBell(int b) {
        return 0 <= b && b < bells();
    }

    // ---- the minutes

    /** Whether a bell rings in a minute, by [bell][minute]; a swing is {minute, 1 if by a rope}. */
    private boolean[][] minutes(List<int[]> byPulls, boolean[] tiedOnes, List<int[]> ropes) {
        boolean[][] rang = new boolean[bells()][400];
        List<List<int[]>> swings = new ArrayList<>();
        int[] last = new int[bells()];
        for (int b = 0; b < bells(); b++) {
            swings.add(new ArrayList<>());
            last[b] = -1;
        }
        for (int m = 0; m < 400; m++) {
            for (int[] p : byPulls) {
                if (p[1] == m) {
                    swings.get(p[0]).add(new int[] {m, 0});
                }
            }
            for (int[] r : ropes) {
                if (m >= r[2] && rang[r[0]][m - r[2]]) {
                    swings.get(r[1]).add(new int[] {m, 1});
                }
            }
            for (int b = 0; b < bells(); b++) {
                if (!tiedOnes[b] && together(swings.get(b), b, last[b], m) >= swingsNeeded(b)) {
                    rang[b][m] = true;
                    last[b] = m;
                }
            }
        }
        return rang;
    }

    private int together(List<int[]> swings, int b, int last, int m) {
        int byRopes = 0;
        int count = 0;
        for (int[] s : swings) {
            if (s[0] <= last) {
                continue;
            }
            byRopes += s[1];
            boolean counts = kind(b) != DEAF || s[1] == 0 || byRopes % 2 == 0;
            if (counts && s[0] >= m - span) {
                count++;
            }
        }
        return count;
    }

    private boolean[][] now() {
        return minutes(pulls, tied, ropes());
    }

    private boolean[][] bySet(int set) {
        List<int[]> by = new ArrayList<>();
        for (int b = 0; b < bells(); b++) {
            for (int k = 0; (set >> b & 1) == 1 && k < swingsNeeded(b); k++) {
                by.add(new int[] {b, 0});
            }
        }
        return minutes(by, tied, ropes());
    }

    private static boolean ringsIn(boolean[] rang, int from, int to) {
        for (int m = from; m < to; m++) {
            if (rang[m]) {
                return true;
            }
        }
        return false;
    }

    private static int howMany(boolean[][] rang) {
        int count = 0;
        for (boolean[] bell : rang) {
            count += ringsIn(bell, 0, 100) ? 1 : 0;
        }
        return count;
    }

    private boolean heard(boolean[][] rang) {
        for (int[] r : readings) {
            if (rang[r[0]][r[1]] != (r[2] == 1)) {
                return false;
            }
        }
        return true;
    }

    private List<int[]> without(int r) {
        List<int[]> ropes = ropes();
        ropes.remove(r);
        return ropes;
    }

    /** The sets of bells, of few bells first, then the least first. */
    private List<Integer> sets() {
        List<Integer> sets = new ArrayList<>();
        for (int s = 0; s < 1 << bells(); s++) {
            sets.add(s);
        }
        sets.sort((a, b) -> Integer.bitCount(a) != Integer.bitCount(b)
            ? Integer.bitCount(a) - Integer.bitCount(b) : a - b);
        return sets;
    }

    // ---- the calls

    long call(String name, int[] a) {
        switch (name) {
            case "valley": return callValley(a);
            case "ofBell": return callOfBell(a[0], a[1]);
            case "ofRope":
                return a[0] < 0 || a[0] >= ropes().size() ? -1 : a[1] < 0 || a[1] > 2 ? -2 : ropes().get(a[0])[a[1]];
            case "tie": return callTie(a[0], a[1] == 1);
            case "span": return callSpan(a[0]);
            case "pull": return callAdd(pulls, 99, new int[] {a[0], a[1]});
            case "undo": return callTakeBack(pulls, a[0]);
            case "rings": return callRings(a[0]);
            case "ringsAt": return callRingsAt(a[0], a[1]);
            case "peal": return callPeal(a[0]);
            case "stops": return callStops();
            case "fewest": return callFewest(a[0]);
            case "still": return callStill(a[0]);
            case "hung": return callHung(a[0]);
            case "cut": return callCut();
            case "reading": return callAdd(readings, 399, new int[] {a[0], a[1], a[2]});
            case "back": return callTakeBack(readings, a[0]);
            case "first": return callFirst();
            case "gone": return callGone();
            case "sneezes": return callSneezes(a[0]);
            case "tune": return callTune(a);
            case "sheet": return callSheet(a[0], a[1], a[2]);
            case "lose": return callLose(a[0]);
            case "put": return callPut(a[0], a[1], a[2]);
            case "cell": return callCell(a[0], a[1], a[2]);
            case "copy": return callCopy(a);
            case "tell": return !isBell(a[0]) ? -1 : tell(a[0], kind(a[0]));
            case "hail": return callHail(a[0]);
            case "as": return callAs(a[0], a[1]);
            case "trace": return trace;
            case "fault": return fault;
            case "many": return callMany(a[0]);
            default: throw new IllegalArgumentException(name);
        }
    }

    private long fall(int number) {
        fault = number;
        return -10 - number;
    }

    private int faultOfCells(int sheet, int lane, int i, int n) {
        if (sheets[sheet] != null && laneOf(sheets[sheet]) != lane) {
            return 2;
        }
        if (sheets[sheet] == null) {
            return 1;
        }
        if (n < 0) {
            return 4;
        }
        return i < 0 || (long) i + n > sizeOf(sheets[sheet]) ? 3 : 0;
    }

    private long callValley(int[] a) {
        fault = 0;
        if (a[0] < 0 || a[0] > 3) {
            return -1;
        }
        if (a[1] < 0 || a[1] > 2) {
            return -2;
        }
        int found = faultOfCells(a[0], a[1], a[2], a[3]);
        if (found != 0) {
            return fall(found);
        }
        StringBuilder s = new StringBuilder();
        for (int k = 0; k < a[3]; k++) {
            int code = get(sheets[a[0]], a[2] + k);
            s.append(code >= 0 && code < 128 ? (char) code : '?');
        }
        int place = firstFault(s.toString());
        if (place >= 0) {
            return -100 - place;
        }
        valley = s.toString();
        tied = new boolean[bells()];
        pulls.clear();
        readings.clear();
        span = 2;
        return bells();
    }

    private long callOfBell(int b, int what) {
        if (!isBell(b)) {
            return -1;
        }
        return what == 0 ? kind(b) : what == 1 ? needs(b) : what == 2 ? swingsNeeded(b)
            : what == 3 ? (tied[b] ? 1 : 0) : -2;
    }

    private long callTie(int b, boolean is) {
        if (!isBell(b)) {
            return -1;
        }
        boolean was = tied[b];
        tied[b] = is;
        return was == is ? 0 : 1;
    }

    private long callSpan(int v) {
        if (v < 0 || v > 5) {
            return -2;
        }
        if (bells() == 0) {
            return -3;
        }
        int was = span;
        span = v;
        return was;
    }

    private long callAdd(List<int[]> to, int lastMinute, int[] what) {
        if (!isBell(what[0])) {
            return -1;
        }
        if (what[1] < 0 || what[1] > lastMinute) {
            return -2;
        }
        if (to.size() == 6) {
            return -4;
        }
        to.add(what);
        return to.size() - 1;
    }

    private long callTakeBack(List<int[]> from, int k) {
        if (k < 0 || k > from.size()) {
            return -2;
        }
        from.subList(from.size() - k, from.size()).clear();
        return from.size();
    }

    private long callRings(int b) {
        int times = 0;
        while (isBell(b) && callRingsAt(b, times) >= 0) {
            times++;
        }
        return isBell(b) ? times : -1;
    }

    private long callRingsAt(int b, int k) {
        if (!isBell(b) || k < 0) {
            return -1;
        }
        List<Integer> at = new ArrayList<>();
        boolean[] rang = nowKept()[b];
        for (int m = 0; m < 400; m++) {
            if (rang[m]) {
                at.add(m);
            }
        }
        return k < at.size() ? at.get(k) : -9;
    }

    private String keptFor = "";
    private boolean[][] kept;

    /** What is asked again and again is worked out once for one state of all that it hangs on. */
    private boolean[][] nowKept() {
        StringBuilder state = new StringBuilder(valley).append(span);
        for (boolean t : tied) {
            state.append(t);
        }
        for (int[] p : pulls) {
            state.append(' ').append(p[0]).append(':').append(p[1]);
        }
        if (kept == null || !state.toString().equals(keptFor)) {
            keptFor = state.toString();
            kept = now();
        }
        return kept;
    }

    private long callPeal(int minute) {
        if (minute < 0 || minute > 399) {
            return -2;
        }
        int set = 0;
        for (int b = 0; b < bells(); b++) {
            set += nowKept()[b][minute] ? 1 << b : 0;
        }
        return bells() == 0 ? -3 : set;
    }

    private static int lastRing(boolean[][] rang) {
        int last = -9;
        for (int m = 0; m < 400; m++) {
            for (boolean[] bell : rang) {
                last = bell[m] ? m : last;
            }
        }
        return last;
    }

    private long callStops() {
        return bells() == 0 ? -3 : lastRing(nowKept());
    }

    private long callFewest(int set) {
        if (set < 0 || set >= 1 << bells()) {
            return -2;
        }
        if (bells() == 0) {
            return -3;
        }
        for (int by : sets()) {
            boolean[][] rang = bySet(by);
            boolean all = true;
            for (int b = 0; b < bells(); b++) {
                all &= (set >> b & 1) == 0 || ringsIn(rang[b], 0, 100);
            }
            if (all) {
                return by;
            }
        }
        return -9;
    }

    private long callStill(int t) {
        if (t < 0 || t > 398) {
            return -2;
        }
        if (bells() == 0) {
            return -3;
        }
        for (int more : sets()) {
            boolean[] all = tied.clone();
            for (int b = 0; b < bells(); b++) {
                all[b] |= (more >> b & 1) == 1;
            }
            if (lastRing(minutes(pulls, all, ropes())) <= t) {
                return more;
            }
        }
        throw new IllegalStateException("all tied, and one rings");
    }

    private long callHung(int what) {
        if (what != 0 && what != 1) {
            return -2;
        }
        if (bells() == 0) {
            return -3;
        }
        int most = howMany(nowKept());
        int best = -9;
        for (int code = 1; code < 600; code++) {
            int from = code / 100;
            int to = code / 10 % 10;
            int length = code % 10;
            if (isBell(from) && isBell(to) && length >= 1 && length <= 3) {
                List<int[]> ropes = ropes();
                ropes.add(new int[] {from, to, length});
                int ring = howMany(minutes(pulls, tied, ropes));
                if (ring > most) {
                    most = ring;
                    best = code;
                }
            }
        }
        return what == 0 ? best : most;
    }

    private long callCut() {
        int set = 0;
        for (int r = 0; r < ropes().size(); r++) {
            set += howMany(minutes(pulls, tied, without(r))) < howMany(nowKept()) ? 1 << r : 0;
        }
        return bells() == 0 ? -3 : set;
    }

    private long callFirst() {
        int set = 0;
        for (int b = 0; b < bells(); b++) {
            set += heard(bySet(1 << b)) ? 1 << b : 0;
        }
        return bells() == 0 ? -3 : set;
    }

    private long callGone() {
        int set = 0;
        for (int r = 0; r < ropes().size(); r++) {
            set += heard(minutes(pulls, tied, without(r))) ? 1 << r : 0;
        }
        return bells() == 0 ? -3 : set;
    }

    private long callSneezes(int which) {
        if (which != 0 && which != 1 || bells() == 0) {
            return Long.MIN_VALUE;
        }
        int by = 0;
        for (int set : sets()) {
            boolean[][] rang = bySet(set);
            boolean all = true;
            for (int b = 0; b < bells(); b++) {
                all &= tied[b] || ringsIn(rang[b], 0, 100);
            }
            by += all ? 1 : 0;
        }
        int common = java.math.BigInteger.valueOf(by).gcd(java.math.BigInteger.valueOf(1 << bells())).intValue();
        return which == 0 ? by / common : (1 << bells()) / common;
    }

    private long callTune(int[] a) {
        fault = 0;
        if (a[0] < 0 || a[0] > 3) {
            return -1;
        }
        if (a[1] < 0 || a[1] > 2) {
            return -2;
        }
        if (bells() == 0) {
            return -3;
        }
        int found = faultOfCells(a[0], a[1], a[2], a[3]);
        if (found != 0) {
            return fall(found);
        }
        if (a[3] < 1 || a[3] > 8) {
            return -2;
        }
        for (int k = 0; k < a[3]; k++) {
            if (!isBell(get(sheets[a[0]], a[2] + k))) {
                return -1;
            }
        }
        // whole[k]: the soonest minute at which the first k + 1 are whole, by trying each minute for each note
        int[] whole = new int[a[3]];
        for (int k = 0; k < a[3]; k++) {
            whole[k] = 1000;
            for (int m = 399; m >= 0; m--) {
                boolean behind = k == 0 || whole[k - 1] < m;
                if (behind && nowKept()[get(sheets[a[0]], a[2] + k)][m]) {
                    whole[k] = m;
                }
            }
        }
        return whole[a[3] - 1] == 1000 ? -9 : whole[a[3] - 1];
    }

    // ---- sheets

    private static int laneOf(Object row) {
        return row instanceof byte[] ? 0 : row instanceof short[] ? 1 : 2;
    }

    private static int sizeOf(Object row) {
        return row instanceof byte[] ? ((byte[]) row).length
            : row instanceof short[] ? ((short[]) row).length : ((int[]) row).length;
    }

    private static int get(Object row, int i) {
        return row instanceof byte[] ? ((byte[]) row)[i]
            : row instanceof short[] ? ((short[]) row)[i] : ((int[]) row)[i];
    }

    private static void set(Object row, int i, int v) {
        if (row instanceof byte[]) {
            ((byte[]) row)[i] = (byte) v;
        } else if (row instanceof short[]) {
            ((short[]) row)[i] = (short) v;
        } else {
            ((int[]) row)[i] = v;
        }
    }

    private long callSheet(int k, int lane, int n) {
        fault = 0;
        if (k < 0 || k > 3) {
            return -1;
        }
        if (lane < 0 || lane > 2 || n > 60) {
            return -2;
        }
        if (n < 0) {
            return fall(4);
        }
        sheets[k] = lane == 0 ? new byte[n] : lane == 1 ? new short[n] : new int[n];
        return 1;
    }

    private long callLose(int k) {
        if (k < 0 || k > 3) {
            return -1;
        }
        boolean had = sheets[k] != null;
        sheets[k] = null;
        return had ? 1 : 0;
    }

    private long callPut(int k, int i, int v) {
        fault = 0;
        if (k < 0 || k > 3) {
            return -1;
        }
        if (sheets[k] == null) {
            return fall(1);
        }
        if (i < 0 || i >= sizeOf(sheets[k])) {
            return fall(3);
        }
        set(sheets[k], i, v);
        return 1;
    }

    private long callCell(int k, int i, int lane) {
        fault = 0;
        if (k < 0 || k > 3 || lane < 0 || lane > 2) {
            return Long.MIN_VALUE;
        }
        if (sheets[k] == null) {
            fault = 1;
        } else if (laneOf(sheets[k]) != lane) {
            fault = 2;
        } else if (i < 0 || i >= sizeOf(sheets[k])) {
            fault = 3;
        }
        return fault != 0 ? Long.MIN_VALUE : get(sheets[k], i);
    }

    private long callCopy(int[] a) {
        fault = 0;
        if (a[0] < 0 || a[0] > 3 || a[2] < 0 || a[2] > 3) {
            return -1;
        }
        if (sheets[a[0]] == null || sheets[a[2]] == null) {
            return fall(1);
        }
        if (laneOf(sheets[a[0]]) != laneOf(sheets[a[2]])) {
            return fall(2);
        }
        long ends = Math.max((long) a[1] + a[4] - sizeOf(sheets[a[0]]), (long) a[3] + a[4] - sizeOf(sheets[a[2]]));
        if (a[1] < 0 || a[3] < 0 || a[4] < 0 || ends > 0) {
            return fall(3);
        }
        int[] were = new int[a[4]];
        for (int k = 0; k < a[4]; k++) {
            were[k] = get(sheets[a[0]], a[1] + k);
        }
        for (int k = 0; k < a[4]; k++) {
            set(sheets[a[2]], a[3] + k, were[k]);
        }
        return a[4];
    }

    // ---- parts

    private int tell(int b, int kind) {
        trace = 31 * trace + kind + 1;
        return kind == 0 ? needs(b) : kind == 1 ? tell(b, 0) + 100 : tell(b, 1) + tell(b, 0);
    }

    private long callHail(int b) {
        if (!isBell(b)) {
            return -1;
        }
        trace = 31 * trace + (kind(b) == DEAF ? 5 : 4);
        return kind(b) == DEAF ? 90 : b;
    }

    private long callAs(int b, int kind) {
        fault = 0;
        if (!isBell(b)) {
            return -1;
        }
        if (kind < 0 || kind > 2) {
            return -2;
        }
        return kind(b) < kind ? fall(2) : 1;
    }

    private long callMany(int what) {
        int[] how = {bells(), ropes().size(), pulls.size(), readings.size(), bells() == 0 ? 0 : span};
        return what < 0 || what > 4 ? -2 : how[what];
    }
}
