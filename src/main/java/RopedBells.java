import java.util.Arrays;

public final class RopedBells {
    public static final int UNKNOWN = -1, OUTSIDE = -2, STATE = -3, FULL = -4, NONE = -9;
    public static final long LOST = Long.MIN_VALUE;

    private static final int BELL = 0, GREAT = 1, DEAF = 2;
    private static final int NULL = 1, CAST = 2, INDEX = 3, SIZE = 4;
    private static final int BYTES = 0, SHORTS = 1, INTS = 2;
    private static final int LEAST_BELLS = 2, MOST_BELLS = 6, MOST_NEEDS = 3;
    private static final int MOST_ROPES = 8, MOST_LONG = 9, MOST_HUNG_LONG = 3;
    private static final int FIRST_SPAN = 2, MOST_SPAN = 5;
    private static final int MOST_PULLS = 6, MOST_READINGS = 6, MOST_NOTES = 8;
    private static final int MINUTES = 400, EARLY_MINUTES = 100;
    private static final int SHEETS = 4, MOST_CELLS = 60, NOTHING = -1;

    private final Valley valley = new Valley();
    private final Text text = new Text();
    private final Pulls pulls = new Pulls();
    private final Pulls triedPulls = new Pulls();
    private final Readings readings = new Readings();
    private final Course heard = new Course(valley);
    private final Course trial = new Course(valley);
    private final Sheet[] sheets = new Sheet[SHEETS];
    private boolean heardIsCurrent;
    private int trace;
    private int fault;

    public RopedBells() {
        for (int k = 0; k < SHEETS; k++) {
            sheets[k] = new Sheet();
        }
    }

    // ---- 1 the valley

    public int valley(int sheet, int lane, int i, int n) {
        fault = 0;
        if (!isSheet(sheet)) {
            return UNKNOWN;
        }
        if (!isLane(lane)) {
            return OUTSIDE;
        }
        int found = sheets[sheet].faultOfCells(lane, i, n);
        if (found != 0) {
            return faulty(found);
        }
        int place = text.firstFault(sheets[sheet].cells, i, n);
        if (place != NONE) {
            return -100 - place;
        }
        valley.become(text.told);
        pulls.count = 0;
        readings.count = 0;
        heardIsCurrent = false;
        return valley.bells;
    }

    public int ofBell(int b, int what) {
        if (!valley.hasBell(b)) {
            return UNKNOWN;
        }
        switch (what) {
            case 0: return valley.kinds[b];
            case 1: return valley.needs[b];
            case 2: return valley.swingsFor(b);
            case 3: return valley.isTied(b) ? 1 : 0;
            default: return OUTSIDE;
        }
    }

    public int ofRope(int r, int what) {
        if (r < 0 || r >= valley.ropes) {
            return UNKNOWN;
        }
        switch (what) {
            case 0: return valley.from[r];
            case 1: return valley.to[r];
            case 2: return valley.lasts[r];
            default: return OUTSIDE;
        }
    }

    public int tie(int b, boolean is) {
        if (!valley.hasBell(b)) {
            return UNKNOWN;
        }
        if (valley.isTied(b) == is) {
            return 0;
        }
        valley.tied ^= 1 << b;
        heardIsCurrent = false;
        return 1;
    }

    public int span(int v) {
        if (v < 0 || v > MOST_SPAN) {
            return OUTSIDE;
        }
        if (hasNoValley()) {
            return STATE;
        }
        int before = valley.span;
        valley.span = v;
        heardIsCurrent = false;
        return before;
    }

    public int pull(int b, int minute) {
        if (!valley.hasBell(b)) {
            return UNKNOWN;
        }
        if (minute < 0 || minute >= EARLY_MINUTES) {
            return OUTSIDE;
        }
        if (pulls.count >= MOST_PULLS) {
            return FULL;
        }
        pulls.add(b, minute, 1);
        heardIsCurrent = false;
        return pulls.count - 1;
    }

    public int undo(int k) {
        if (k < 0 || k > pulls.count) {
            return OUTSIDE;
        }
        pulls.count -= k;
        heardIsCurrent = false;
        return pulls.count;
    }

    // ---- 2 minutes

    public int rings(int b) {
        if (!valley.hasBell(b)) {
            return UNKNOWN;
        }
        Course now = heardNow();
        int times = 0;
        for (int minute = 0; minute < MINUTES; minute++) {
            if (now.rangAt(b, minute)) {
                times++;
            }
        }
        return times;
    }

    public int ringsAt(int b, int k) {
        if (!valley.hasBell(b) || k < 0) {
            return UNKNOWN;
        }
        Course now = heardNow();
        int ahead = k;
        for (int minute = 0; minute < MINUTES; minute++) {
            if (now.rangAt(b, minute)) {
                if (ahead == 0) {
                    return minute;
                }
                ahead--;
            }
        }
        return NONE;
    }

    public int peal(int minute) {
        if (minute < 0 || minute >= MINUTES) {
            return OUTSIDE;
        }
        if (hasNoValley()) {
            return STATE;
        }
        return heardNow().rang[minute];
    }

    public int stops() {
        if (hasNoValley()) {
            return STATE;
        }
        return heardNow().lastMinute();
    }

    // ---- 3 pulls, ties, ropes

    public int fewest(int set) {
        if ((set & ~valley.allBells()) != 0) {
            return OUTSIDE;
        }
        if (hasNoValley()) {
            return STATE;
        }
        int best = NONE;
        for (int by = 0; by <= valley.allBells(); by++) {
            if (isFewer(by, best) && (set & ~ringEarlyBy(by)) == 0) {
                best = by;
            }
        }
        return best;
    }

    public int still(int t) {
        if (t < 0 || t >= MINUTES - 1) {
            return OUTSIDE;
        }
        if (hasNoValley()) {
            return STATE;
        }
        int best = NONE;
        for (int more = 0; more <= valley.allBells(); more++) {
            if (isFewer(more, best) && lastMinuteTied(more) <= t) {
                best = more;
            }
        }
        return best;
    }

    public int hung(int what) {
        if (what < 0 || what > 1) {
            return OUTSIDE;
        }
        if (hasNoValley()) {
            return STATE;
        }
        int now = heardNow().bellsBefore(EARLY_MINUTES);
        int most = Integer.bitCount(now);
        int best = NONE;
        for (int from = 0; from < valley.bells; from++) {
            // A rope from a bell that is silent carries nothing: no more bells ring by it.
            if ((now >> from & 1) == 0) {
                continue;
            }
            for (int to = 0; to < valley.bells; to++) {
                for (int lasts = 1; lasts <= MOST_HUNG_LONG; lasts++) {
                    int ring = howManyRingWith(from, to, lasts);
                    if (ring > most) {
                        most = ring;
                        best = 100 * from + 10 * to + lasts;
                    }
                }
            }
        }
        return what == 0 ? best : most;
    }

    public int cut() {
        if (hasNoValley()) {
            return STATE;
        }
        int now = Integer.bitCount(heardNow().bellsBefore(EARLY_MINUTES));
        int set = 0;
        for (int r = 0; r < valley.ropes; r++) {
            playWithout(r, EARLY_MINUTES);
            if (Integer.bitCount(trial.bellsBefore(EARLY_MINUTES)) < now) {
                set |= 1 << r;
            }
        }
        return set;
    }

    // ---- 4 what was heard

    public int reading(int b, int minute, boolean rang) {
        if (!valley.hasBell(b)) {
            return UNKNOWN;
        }
        if (minute < 0 || minute >= MINUTES) {
            return OUTSIDE;
        }
        if (readings.count >= MOST_READINGS) {
            return FULL;
        }
        readings.add(b, minute, rang);
        return readings.count - 1;
    }

    public int back(int k) {
        if (k < 0 || k > readings.count) {
            return OUTSIDE;
        }
        readings.count -= k;
        return readings.count;
    }

    public int first() {
        if (hasNoValley()) {
            return STATE;
        }
        int set = 0;
        for (int b = 0; b < valley.bells; b++) {
            playSet(1 << b, MINUTES);
            if (readings.areSoIn(trial)) {
                set |= 1 << b;
            }
        }
        return set;
    }

    public int gone() {
        if (hasNoValley()) {
            return STATE;
        }
        int set = 0;
        for (int r = 0; r < valley.ropes; r++) {
            playWithout(r, MINUTES);
            if (readings.areSoIn(trial)) {
                set |= 1 << r;
            }
        }
        return set;
    }

    public long sneezes(int which) {
        if (which < 0 || which > 1 || hasNoValley()) {
            return LOST;
        }
        int free = valley.allBells() & ~valley.tied;
        int upper = 0;
        for (int by = 0; by <= valley.allBells(); by++) {
            if ((free & ~ringEarlyBy(by)) == 0) {
                upper++;
            }
        }
        int lower = valley.allBells() + 1;
        // The lower number is a power of two: halving both is all that can be lessened.
        while (lower > 1 && upper % 2 == 0) {
            upper /= 2;
            lower /= 2;
        }
        return which == 0 ? upper : lower;
    }

    public int tune(int sheet, int lane, int i, int n) {
        fault = 0;
        if (!isSheet(sheet)) {
            return UNKNOWN;
        }
        if (!isLane(lane)) {
            return OUTSIDE;
        }
        if (hasNoValley()) {
            return STATE;
        }
        int found = sheets[sheet].faultOfCells(lane, i, n);
        if (found != 0) {
            return faulty(found);
        }
        if (n < 1 || n > MOST_NOTES) {
            return OUTSIDE;
        }
        for (int note = 0; note < n; note++) {
            if (!valley.hasBell(sheets[sheet].cells[i + note])) {
                return UNKNOWN;
            }
        }
        return wholeAt(sheets[sheet].cells, i, n);
    }

    // ---- 5 sheets, parts

    public int sheet(int k, int lane, int n) {
        fault = 0;
        if (!isSheet(k)) {
            return UNKNOWN;
        }
        if (!isLane(lane) || n > MOST_CELLS) {
            return OUTSIDE;
        }
        if (n < 0) {
            return faulty(SIZE);
        }
        sheets[k].begin(lane, n);
        return 1;
    }

    public int lose(int k) {
        if (!isSheet(k)) {
            return UNKNOWN;
        }
        if (!sheets[k].hasRow()) {
            return 0;
        }
        sheets[k].size = NOTHING;
        return 1;
    }

    public int put(int k, int i, int v) {
        fault = 0;
        if (!isSheet(k)) {
            return UNKNOWN;
        }
        if (!sheets[k].hasRow()) {
            return faulty(NULL);
        }
        if (!sheets[k].hasCell(i)) {
            return faulty(INDEX);
        }
        sheets[k].cells[i] = sheets[k].cutToLane(v);
        return 1;
    }

    public long cell(int k, int i, int lane) {
        fault = 0;
        if (!isSheet(k) || !isLane(lane)) {
            return LOST;
        }
        fault = sheets[k].faultOfLane(lane);
        if (fault == 0 && !sheets[k].hasCell(i)) {
            fault = INDEX;
        }
        return fault == 0 ? sheets[k].cells[i] : LOST;
    }

    public int copy(int k, int i, int other, int j, int n) {
        fault = 0;
        if (!isSheet(k) || !isSheet(other)) {
            return UNKNOWN;
        }
        Sheet source = sheets[k];
        Sheet target = sheets[other];
        if (!source.hasRow() || !target.hasRow()) {
            return faulty(NULL);
        }
        if (source.lane != target.lane) {
            return faulty(CAST);
        }
        if (!source.hasCells(i, n) || !target.hasCells(j, n)) {
            return faulty(INDEX);
        }
        System.arraycopy(source.cells, i, target.cells, j, n);
        return n;
    }

    public int tell(int b) {
        if (!valley.hasBell(b)) {
            return UNKNOWN;
        }
        switch (valley.kinds[b]) {
            case GREAT: return greatTells(b);
            case DEAF: return deafTells(b);
            default: return bellTells(b);
        }
    }

    public int hail(int b) {
        if (!valley.hasBell(b)) {
            return UNKNOWN;
        }
        return valley.kinds[b] == DEAF ? deafHailed() : lentHailed(b);
    }

    public int as(int b, int kind) {
        fault = 0;
        if (!valley.hasBell(b)) {
            return UNKNOWN;
        }
        if (kind < BELL || kind > DEAF) {
            return OUTSIDE;
        }
        // Each kind is one of the kinds with a lesser number, too.
        return valley.kinds[b] >= kind ? 1 : faulty(CAST);
    }

    public int trace() {
        return trace;
    }

    public int fault() {
        return fault;
    }

    public int many(int what) {
        switch (what) {
            case 0: return valley.bells;
            case 1: return valley.ropes;
            case 2: return pulls.count;
            case 3: return readings.count;
            case 4: return valley.span;
            default: return OUTSIDE;
        }
    }

    // ---- what the calls share

    private static boolean isSheet(int k) {
        return k >= 0 && k < SHEETS;
    }

    private static boolean isLane(int lane) {
        return lane >= BYTES && lane <= INTS;
    }

    private boolean hasNoValley() {
        return valley.bells == 0;
    }

    private int faulty(int number) {
        fault = number;
        return -10 - number;
    }

    // Sets are gone through from the least on: of as many bells the first one stays.
    private static boolean isFewer(int set, int best) {
        return best == NONE || Integer.bitCount(set) < Integer.bitCount(best);
    }

    private Course heardNow() {
        if (!heardIsCurrent) {
            heard.play(pulls, valley.tied, valley.allRopes(), MINUTES);
            heardIsCurrent = true;
        }
        return heard;
    }

    private void playSet(int set, int end) {
        triedPulls.count = 0;
        for (int b = 0; b < valley.bells; b++) {
            if ((set >> b & 1) != 0) {
                triedPulls.add(b, 0, valley.swingsFor(b));
            }
        }
        trial.play(triedPulls, valley.tied, valley.allRopes(), end);
    }

    private int ringEarlyBy(int set) {
        playSet(set, EARLY_MINUTES);
        return trial.bellsBefore(EARLY_MINUTES);
    }

    private int lastMinuteTied(int more) {
        trial.play(pulls, valley.tied | more, valley.allRopes(), MINUTES);
        return trial.lastMinute();
    }

    private int howManyRingWith(int from, int to, int lasts) {
        valley.layRope(MOST_ROPES, from, to, lasts);
        trial.play(pulls, valley.tied, valley.allRopes() | 1 << MOST_ROPES, EARLY_MINUTES);
        return Integer.bitCount(trial.bellsBefore(EARLY_MINUTES));
    }

    private void playWithout(int rope, int end) {
        trial.play(pulls, valley.tied, valley.allRopes() & ~(1 << rope), end);
    }

    private int wholeAt(int[] notes, int i, int n) {
        Course now = heardNow();
        int note = 0;
        for (int minute = 0; minute < MINUTES; minute++) {
            if (now.rangAt(notes[i + note], minute)) {
                note++;
                if (note == n) {
                    return minute;
                }
            }
        }
        return NONE;
    }

    private void leave(int number) {
        trace = 31 * trace + number;
    }

    private int bellTells(int b) {
        leave(1);
        return valley.needs[b];
    }

    private int greatTells(int b) {
        leave(2);
        return bellTells(b) + 100;
    }

    private int deafTells(int b) {
        leave(3);
        int great = greatTells(b);
        return great + bellTells(b);
    }

    private int lentHailed(int b) {
        leave(4);
        return b;
    }

    private int deafHailed() {
        leave(5);
        return 90;
    }

    private static final class Valley {
        final int[] kinds = new int[MOST_BELLS];
        final int[] needs = new int[MOST_BELLS];
        // One place more than a text can tell: there lies the rope that is only tried.
        final int[] from = new int[MOST_ROPES + 1];
        final int[] to = new int[MOST_ROPES + 1];
        final int[] lasts = new int[MOST_ROPES + 1];
        int bells;
        int ropes;
        int span;
        int tied;

        void begin() {
            bells = 0;
            ropes = 0;
            span = FIRST_SPAN;
            tied = 0;
        }

        void become(Valley other) {
            System.arraycopy(other.kinds, 0, kinds, 0, MOST_BELLS);
            System.arraycopy(other.needs, 0, needs, 0, MOST_BELLS);
            System.arraycopy(other.from, 0, from, 0, MOST_ROPES);
            System.arraycopy(other.to, 0, to, 0, MOST_ROPES);
            System.arraycopy(other.lasts, 0, lasts, 0, MOST_ROPES);
            bells = other.bells;
            ropes = other.ropes;
            span = other.span;
            tied = other.tied;
        }

        void layRope(int place, int start, int end, int minutes) {
            from[place] = start;
            to[place] = end;
            lasts[place] = minutes;
        }

        boolean hasBell(int b) {
            return b >= 0 && b < bells;
        }

        boolean isTied(int b) {
            return (tied >> b & 1) != 0;
        }

        int allBells() {
            return (1 << bells) - 1;
        }

        int allRopes() {
            return (1 << ropes) - 1;
        }

        int swingsFor(int b) {
            return kinds[b] == BELL ? needs[b] : needs[b] + 1;
        }
    }

    private static final class Text {
        private static final int AT_START = 0, BETWEEN = 1, AT_NEEDS = 2, AT_FROM = 3, AT_TO = 4, AT_LONG = 5;

        final Valley told = new Valley();
        private int state;

        int firstFault(int[] codes, int i, int n) {
            told.begin();
            state = AT_START;
            for (int place = 0; place < n; place++) {
                if (!goesOnWith(codes[i + place])) {
                    return place;
                }
            }
            return state == BETWEEN && told.bells >= LEAST_BELLS ? NONE : n;
        }

        private boolean goesOnWith(int code) {
            switch (state) {
                case AT_START:
                    state = BETWEEN;
                    return code == 'v';
                case BETWEEN:
                    return code == ';' ? beginsRope() : beginsBell(code);
                case AT_NEEDS:
                    return takesNeeds(code - '0');
                default:
                    return takesRope(code - '0');
            }
        }

        private boolean beginsBell(int code) {
            int kind = kindOf(code);
            if (kind == NONE || told.bells >= MOST_BELLS || told.ropes > 0) {
                return false;
            }
            told.kinds[told.bells] = kind;
            state = AT_NEEDS;
            return true;
        }

        private static int kindOf(int code) {
            switch (code) {
                case 'b': return BELL;
                case 'g': return GREAT;
                case 'd': return DEAF;
                default: return NONE;
            }
        }

        private boolean takesNeeds(int digit) {
            if (digit < 1 || digit > MOST_NEEDS) {
                return false;
            }
            told.needs[told.bells] = digit;
            told.bells++;
            state = BETWEEN;
            return true;
        }

        private boolean beginsRope() {
            if (told.bells < LEAST_BELLS || told.ropes >= MOST_ROPES) {
                return false;
            }
            state = AT_FROM;
            return true;
        }

        private boolean takesRope(int digit) {
            if (state == AT_LONG) {
                return takesLong(digit);
            }
            if (!told.hasBell(digit)) {
                return false;
            }
            if (state == AT_FROM) {
                told.from[told.ropes] = digit;
                state = AT_TO;
            } else {
                told.to[told.ropes] = digit;
                state = AT_LONG;
            }
            return true;
        }

        private boolean takesLong(int digit) {
            if (digit < 1 || digit > MOST_LONG) {
                return false;
            }
            told.lasts[told.ropes] = digit;
            told.ropes++;
            state = BETWEEN;
            return true;
        }
    }

    private static final class Pulls {
        final int[] bells = new int[MOST_PULLS];
        final int[] minutes = new int[MOST_PULLS];
        final int[] times = new int[MOST_PULLS];
        int count;

        void add(int bell, int minute, int often) {
            if (count < MOST_PULLS) {
                bells[count] = bell;
                minutes[count] = minute;
                times[count] = often;
                count++;
            }
        }

        int lastMinute() {
            int last = NONE;
            for (int p = 0; p < count; p++) {
                last = Math.max(last, minutes[p]);
            }
            return last;
        }
    }

    private static final class Readings {
        final int[] bells = new int[MOST_READINGS];
        final int[] minutes = new int[MOST_READINGS];
        final boolean[] rang = new boolean[MOST_READINGS];
        int count;

        void add(int bell, int minute, boolean is) {
            if (count < MOST_READINGS) {
                bells[count] = bell;
                minutes[count] = minute;
                rang[count] = is;
                count++;
            }
        }

        boolean areSoIn(Course course) {
            for (int r = 0; r < count; r++) {
                if (course.rangAt(bells[r], minutes[r]) != rang[r]) {
                    return false;
                }
            }
            return true;
        }
    }

    // The minutes by given pulls, ties and ropes; all its rows are used again by the next play.
    private static final class Course {
        private static final int WAYS = MOST_LONG + 1, WINDOW = MOST_SPAN + 1;

        private final Valley valley;
        final int[] rang = new int[MINUTES];
        // Swings on the ropes, by the minute in which they come (modulo WAYS) and the bell.
        private final int[] underWay = new int[WAYS * MOST_BELLS];
        // Swings that count, since the bell last rang, by the minute (modulo WINDOW) and the bell.
        private final int[] counting = new int[WINDOW * MOST_BELLS];
        private final int[] cameByRopes = new int[MOST_BELLS];
        private int lastDue;

        Course(Valley valley) {
            this.valley = valley;
        }

        boolean rangAt(int b, int minute) {
            return (rang[minute] >> b & 1) != 0;
        }

        int bellsBefore(int end) {
            int set = 0;
            for (int minute = 0; minute < end; minute++) {
                set |= rang[minute];
            }
            return set;
        }

        int lastMinute() {
            for (int minute = MINUTES - 1; minute >= 0; minute--) {
                if (rang[minute] != 0) {
                    return minute;
                }
            }
            return NONE;
        }

        void play(Pulls pulls, int tied, int ropes, int end) {
            Arrays.fill(rang, 0);
            Arrays.fill(underWay, 0);
            Arrays.fill(counting, 0);
            Arrays.fill(cameByRopes, 0);
            lastDue = pulls.lastMinute();
            // Where no swing is to come any more, no bell can ring.
            for (int minute = 0; minute < end && minute <= lastDue; minute++) {
                swingByRopes(minute);
                swingByPulls(pulls, minute);
                ringAll(minute, tied);
                if (rang[minute] != 0) {
                    sendOn(minute, ropes);
                }
            }
        }

        private void swingByRopes(int minute) {
            int way = minute % WAYS * MOST_BELLS;
            int slot = minute % WINDOW * MOST_BELLS;
            for (int b = 0; b < valley.bells; b++) {
                counting[slot + b] = countedOf(b, underWay[way + b]);
                underWay[way + b] = 0;
            }
        }

        private int countedOf(int b, int swings) {
            if (valley.kinds[b] != DEAF) {
                return swings;
            }
            int before = cameByRopes[b];
            cameByRopes[b] = before + swings;
            return (before + swings) / 2 - before / 2;
        }

        private void swingByPulls(Pulls pulls, int minute) {
            int slot = minute % WINDOW * MOST_BELLS;
            for (int p = 0; p < pulls.count; p++) {
                if (pulls.minutes[p] == minute) {
                    counting[slot + pulls.bells[p]] += pulls.times[p];
                }
            }
        }

        private void ringAll(int minute, int tied) {
            for (int b = 0; b < valley.bells; b++) {
                if ((tied >> b & 1) == 0 && countTogether(b, minute) >= valley.swingsFor(b)) {
                    rang[minute] |= 1 << b;
                    forget(b);
                }
            }
        }

        private int countTogether(int b, int minute) {
            int sum = 0;
            for (int ago = 0; ago <= valley.span && ago <= minute; ago++) {
                sum += counting[(minute - ago) % WINDOW * MOST_BELLS + b];
            }
            return sum;
        }

        private void forget(int b) {
            for (int slot = 0; slot < WINDOW; slot++) {
                counting[slot * MOST_BELLS + b] = 0;
            }
            cameByRopes[b] = 0;
        }

        private void sendOn(int minute, int ropes) {
            for (int r = 0; r <= MOST_ROPES; r++) {
                if ((ropes >> r & 1) != 0 && rangAt(valley.from[r], minute)) {
                    int due = minute + valley.lasts[r];
                    underWay[due % WAYS * MOST_BELLS + valley.to[r]]++;
                    lastDue = Math.max(lastDue, due);
                }
            }
        }
    }

    private static final class Sheet {
        final int[] cells = new int[MOST_CELLS];
        int lane;
        int size = NOTHING;

        void begin(int ofLane, int howMany) {
            Arrays.fill(cells, 0);
            lane = ofLane;
            size = howMany;
        }

        boolean hasRow() {
            return size != NOTHING;
        }

        boolean hasCell(int i) {
            return i >= 0 && i < size;
        }

        // Told by what is left behind i: i and n together might wrap.
        boolean hasCells(int i, int n) {
            return i >= 0 && i <= size && n >= 0 && n <= size - i;
        }

        int faultOfLane(int wanted) {
            if (!hasRow()) {
                return NULL;
            }
            return lane == wanted ? 0 : CAST;
        }

        int faultOfCells(int wanted, int i, int n) {
            int found = faultOfLane(wanted);
            if (found != 0) {
                return found;
            }
            if (n < 0) {
                return SIZE;
            }
            return hasCells(i, n) ? 0 : INDEX;
        }

        int cutToLane(int v) {
            switch (lane) {
                case BYTES: return (byte) v;
                case SHORTS: return (short) v;
                default: return v;
            }
        }
    }
}
