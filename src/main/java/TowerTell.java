/**
 * A tower in which each storey is a lower estimate of oneself, and in which one rises only by telling.
 * Sets are answered as bits; refusals and faults are negative numbers, as the document tells them.
 */
public final class TowerTell {
    public static final int UNKNOWN = -1, OUTSIDE = -2, STATE = -3, FULL = -4, NONE = -9;
    public static final long LOST = Long.MIN_VALUE;

    private static final int NO_FAULT = 0, NULL_FAULT = 1, CAST_FAULT = 2, INDEX_FAULT = 3, SIZE_FAULT = 4;
    private static final int PLAIN = 0, PROUD = 1, ABJECT = 2;
    private static final int NO_LANE = -1, BYTES = 0, SHORTS = 1, INTS = 2;
    private static final int MOST_DEEDS = 6, MOST_PEOPLE = 4, MOST_WEIGHT = 9, MOST_KNOWN = 4;
    private static final int MOST_SHEETS = 4, MOST_CELLS = 60;
    private static final int MOST_DAYS = 20, MOST_READINGS = 8, MOST_READ_FLOOR = 99;
    private static final int ASK_CAUGHT = 0, ASK_WRONG = 1, ASK_HIGHEST = 2, ASK_FLOOR = 10, ASK_TOLD = 20;
    private static final int PLACES_FROM = -100;
    // Every refusal and fault is below 0, so 0 is free to say that none was come to.
    private static final int GOES_ON = 0;

    private final Sheet[] sheets;
    private final TextReader reader;
    private final int[] readPerson;
    private final int[] readFloor;
    private int readings;
    private Tower now;
    // What is only tried (a text that is read, days that are told) happens here, so that `now` stays as it is.
    private Tower trial;
    private int trail;
    private int latestFault;

    public TowerTell() {
        sheets = new Sheet[MOST_SHEETS];
        for (int k = 0; k < MOST_SHEETS; k++) {
            sheets[k] = new Sheet();
        }
        reader = new TextReader();
        readPerson = new int[MOST_READINGS];
        readFloor = new int[MOST_READINGS];
        now = new Tower();
        trial = new Tower();
    }

    // ---- 1 the tower

    public int tower(int sheet, int lane, int i, int n) {
        latestFault = NO_FAULT;
        if (!isSheet(sheet)) {
            return UNKNOWN;
        }
        if (!isLane(lane)) {
            return OUTSIDE;
        }
        int fault = sheets[sheet].faultOf(lane, i, n);
        if (fault != NO_FAULT) {
            return faulted(fault);
        }
        int place = reader.firstFault(sheets[sheet], i, n, trial);
        if (place != NONE) {
            return PLACES_FROM - place;
        }
        Tower old = now;
        now = trial;
        trial = old;
        readings = 0;
        return now.people;
    }

    public int ofPerson(int p, int what) {
        if (!now.isPerson(p)) {
            return UNKNOWN;
        }
        switch (what) {
            case 0:
                return now.kindOf[p];
            case 1:
                return now.truthsOf(p);
            case 2:
                return now.knownTo[p];
            case 3:
                return now.toldBy[p];
            case 4:
                return now.floorOf(p);
            default:
                return OUTSIDE;
        }
    }

    public int weight(int d) {
        return now.isDeed(d) ? now.weightOf[d] : UNKNOWN;
    }

    public int weigh(int d, int v) {
        if (!now.isDeed(d)) {
            return UNKNOWN;
        }
        if (v < 1 || v > MOST_WEIGHT) {
            return OUTSIDE;
        }
        int was = now.weightOf[d];
        now.weightOf[d] = v;
        return was;
    }

    public int storeys(int p, int d) {
        return now.isPerson(p) && now.isDeed(d) ? now.rise(p, d) : UNKNOWN;
    }

    // ---- 2 tellings

    public int say(int p, int d) {
        if (!now.isPerson(p) || !now.isDeed(d)) {
            return UNKNOWN;
        }
        if (now.hasTold(p, d)) {
            return STATE;
        }
        now.hear(p, d);
        return now.floorOf(p);
    }

    public int hush(int p) {
        if (!now.isPerson(p)) {
            return UNKNOWN;
        }
        int was = now.floorOf(p);
        now.toldBy[p] = 0;
        return was;
    }

    public int landing(int f) {
        if (now.people == 0) {
            return STATE;
        }
        if (f < 0) {
            return OUTSIDE;
        }
        int there = 0;
        for (int p = 0; p < now.people; p++) {
            if (now.floorOf(p) == f) {
                there |= 1 << p;
            }
        }
        return there;
    }

    public int days(int sheet, int lane, int i, int n, int what) {
        latestFault = NO_FAULT;
        if (!isSheet(sheet)) {
            return UNKNOWN;
        }
        if (!isLane(lane) || !isDaysLength(n) || !isQuestion(what)) {
            return OUTSIDE;
        }
        int stop = stopOfDays(sheets[sheet], lane, i, n);
        if (stop != GOES_ON) {
            return stop;
        }
        trial.become(now);
        int wrong = liveDays(sheets[sheet], i, n);
        if (what == ASK_WRONG) {
            return wrong;
        }
        return wrong == NONE ? answerOfTrial(what) : PLACES_FROM - wrong;
    }

    // ---- 3 floors

    public int way(int p, int f) {
        if (!now.isPerson(p)) {
            return UNKNOWN;
        }
        if (f < 0) {
            return OUTSIDE;
        }
        int truths = now.truthsOf(p);
        int best = NONE;
        for (int set = 0; set <= truths; set++) {
            boolean leads = isWithin(set, truths) && now.floorBy(p, set) == f;
            // Sets come from the least on, so one of as many truths as the best so far is no better.
            if (leads && (best == NONE || Integer.bitCount(set) < Integer.bitCount(best))) {
                best = set;
            }
        }
        return best;
    }

    public int kept(int p, int f) {
        if (!now.isPerson(p)) {
            return UNKNOWN;
        }
        if (f < 0) {
            return OUTSIDE;
        }
        int truths = now.truthsOf(p);
        int common = NONE;
        for (int set = 0; set <= truths; set++) {
            if (isWithin(set, truths) && now.floorBy(p, set) == f) {
                common = common == NONE ? set : common & set;
            }
        }
        return common;
    }

    public int roof(int p) {
        return now.isPerson(p) ? now.floorBy(p, now.truthsOf(p)) : UNKNOWN;
    }

    public int safe(int p) {
        if (!now.isPerson(p)) {
            return UNKNOWN;
        }
        int harmless = 0;
        for (int d = 0; d < now.deeds; d++) {
            if (!now.hasTold(p, d) && !now.wouldBeCaught(p, d)) {
                harmless |= 1 << d;
            }
        }
        return harmless;
    }

    // ---- 4 who was where

    public int reading(int p, int f) {
        if (!now.isPerson(p)) {
            return UNKNOWN;
        }
        if (f < 0 || f > MOST_READ_FLOOR) {
            return OUTSIDE;
        }
        if (readings >= MOST_READINGS) {
            return FULL;
        }
        readPerson[readings] = p;
        readFloor[readings] = f;
        readings++;
        return readings - 1;
    }

    public int back(int k) {
        if (k < 0 || k > readings) {
            return OUTSIDE;
        }
        readings -= k;
        return readings;
    }

    public int weights(int d, int sheet, int lane, int i, int n) {
        int stop = stopOfGuess(now.isDeed(d), sheet, lane, i, n);
        if (stop != GOES_ON) {
            return stop;
        }
        int fitting = 0;
        for (int v = 1; v <= MOST_WEIGHT; v++) {
            trial.become(now);
            trial.weightOf[d] = v;
            if (liveDays(sheets[sheet], i, n) == NONE && readingsAreSo()) {
                fitting |= 1 << v;
            }
        }
        return fitting;
    }

    public int kinds(int p, int sheet, int lane, int i, int n) {
        int stop = stopOfGuess(now.isPerson(p), sheet, lane, i, n);
        if (stop != GOES_ON) {
            return stop;
        }
        int fitting = 0;
        for (int kind = PLAIN; kind <= ABJECT; kind++) {
            trial.become(now);
            trial.kindOf[p] = kind;
            if (liveDays(sheets[sheet], i, n) == NONE && readingsAreSo()) {
                fitting |= 1 << kind;
            }
        }
        return fitting;
    }

    public int knew(int p, int sheet, int lane, int i, int n) {
        int stop = stopOfGuess(now.isPerson(p), sheet, lane, i, n);
        if (stop != GOES_ON) {
            return stop;
        }
        int fitting = 0;
        for (int whom = 0; whom <= MOST_KNOWN; whom++) {
            trial.become(now);
            trial.knownTo[p] = whom;
            if (liveDays(sheets[sheet], i, n) == NONE && readingsAreSo()) {
                fitting |= 1 << whom;
            }
        }
        return fitting;
    }

    public long odds(int p, int f, int which) {
        if (!now.isPerson(p) || f < 0 || which < 0 || which > 1) {
            return LOST;
        }
        int truths = now.truthsOf(p);
        int upper = 0;
        int lower = 1 << Integer.bitCount(truths);
        for (int set = 0; set <= truths; set++) {
            if (isWithin(set, truths) && now.floorBy(p, set) >= f) {
                upper++;
            }
        }
        // The lower number is a power of two, so halving is all that least terms take.
        while (lower > 1 && (upper & 1) == 0) {
            upper >>= 1;
            lower >>= 1;
        }
        return which == 0 ? upper : lower;
    }

    // ---- 5 sheets, parts

    public int sheet(int k, int lane, int n) {
        latestFault = NO_FAULT;
        if (!isSheet(k)) {
            return UNKNOWN;
        }
        if (!isLane(lane) || n > MOST_CELLS) {
            return OUTSIDE;
        }
        if (n < 0) {
            return faulted(SIZE_FAULT);
        }
        sheets[k].begin(lane, n);
        return 1;
    }

    public int lose(int k) {
        if (!isSheet(k)) {
            return UNKNOWN;
        }
        int had = sheets[k].isBare() ? 0 : 1;
        sheets[k].drop();
        return had;
    }

    public int put(int k, int i, int v) {
        latestFault = NO_FAULT;
        if (!isSheet(k)) {
            return UNKNOWN;
        }
        if (sheets[k].isBare()) {
            return faulted(NULL_FAULT);
        }
        if (!sheets[k].holds(i, 1)) {
            return faulted(INDEX_FAULT);
        }
        sheets[k].write(i, v);
        return 1;
    }

    public long cell(int k, int i, int lane) {
        latestFault = NO_FAULT;
        if (!isSheet(k) || !isLane(lane)) {
            return LOST;
        }
        latestFault = sheets[k].faultOf(lane, i, 1);
        return latestFault == NO_FAULT ? sheets[k].cells[i] : LOST;
    }

    public int copy(int k, int i, int other, int j, int n) {
        latestFault = NO_FAULT;
        if (!isSheet(k) || !isSheet(other)) {
            return UNKNOWN;
        }
        Sheet from = sheets[k];
        Sheet to = sheets[other];
        if (from.isBare() || to.isBare()) {
            return faulted(NULL_FAULT);
        }
        if (from.lane != to.lane) {
            return faulted(CAST_FAULT);
        }
        if (!from.holds(i, n) || !to.holds(j, n)) {
            return faulted(INDEX_FAULT);
        }
        System.arraycopy(from.cells, i, to.cells, j, n);
        return n;
    }

    public int tell(int p) {
        if (!now.isPerson(p)) {
            return UNKNOWN;
        }
        switch (now.kindOf[p]) {
            case ABJECT:
                return abjectTelling(p);
            case PROUD:
                return proudTelling(p);
            default:
                return plainTelling(p);
        }
    }

    public int greet(int p) {
        if (!now.isPerson(p)) {
            return UNKNOWN;
        }
        return now.kindOf[p] == ABJECT ? abjectGreeting() : lentGreeting(p);
    }

    public int as(int p, int kind) {
        latestFault = NO_FAULT;
        if (!now.isPerson(p)) {
            return UNKNOWN;
        }
        if (kind < PLAIN || kind > ABJECT) {
            return OUTSIDE;
        }
        // Each kind is of the one before it too, so one is of every kind up to one's own.
        return kind <= now.kindOf[p] ? 1 : faulted(CAST_FAULT);
    }

    public int trace() {
        return trail;
    }

    public int fault() {
        return latestFault;
    }

    public int many(int what) {
        switch (what) {
            case 0:
                return now.people;
            case 1:
                return now.deeds;
            case 2:
                return readings;
            default:
                return OUTSIDE;
        }
    }

    // ---- what several calls share

    private static boolean isSheet(int k) {
        return k >= 0 && k < MOST_SHEETS;
    }

    private static boolean isLane(int lane) {
        return lane >= BYTES && lane <= INTS;
    }

    private static boolean isDaysLength(int n) {
        return n >= 0 && n <= MOST_DAYS;
    }

    private static boolean isQuestion(int what) {
        return what >= ASK_CAUGHT && what <= ASK_HIGHEST
                || what >= ASK_FLOOR && what < ASK_FLOOR + MOST_PEOPLE
                || what >= ASK_TOLD && what < ASK_TOLD + MOST_PEOPLE;
    }

    private static boolean isWithin(int set, int whole) {
        return (set & ~whole) == 0;
    }

    private int faulted(int fault) {
        latestFault = fault;
        return -10 - fault;
    }

    /** What stops a call that guesses by DAYS (known: there is such a DEED or PERSON), or GOES_ON. */
    private int stopOfGuess(boolean known, int sheet, int lane, int i, int n) {
        latestFault = NO_FAULT;
        if (!known || !isSheet(sheet)) {
            return UNKNOWN;
        }
        if (!isLane(lane) || !isDaysLength(n)) {
            return OUTSIDE;
        }
        return stopOfDays(sheets[sheet], lane, i, n);
    }

    /** What stops DAYS of n pairs behind the look at the plain numbers, or GOES_ON. */
    private int stopOfDays(Sheet row, int lane, int i, int n) {
        int fault = row.faultOf(lane, i, 2 * n);
        if (fault != NO_FAULT) {
            return faulted(fault);
        }
        if (now.people == 0) {
            return STATE;
        }
        for (int at = i; at < i + 2 * n; at += 2) {
            if (!now.isPerson(row.cells[at]) || !now.isDeed(row.cells[at + 1])) {
                return UNKNOWN;
            }
        }
        return GOES_ON;
    }

    /** Tells DAYS that nothing stops in the trial tower, up to the FIRST WRONG: its place, or NONE. */
    private int liveDays(Sheet row, int i, int n) {
        for (int day = 0; day < n; day++) {
            int p = row.cells[i + 2 * day];
            int d = row.cells[i + 2 * day + 1];
            if (trial.hasTold(p, d)) {
                return day;
            }
            trial.hear(p, d);
        }
        return NONE;
    }

    private int answerOfTrial(int what) {
        if (what == ASK_CAUGHT) {
            return trial.catches;
        }
        if (what == ASK_HIGHEST) {
            return trial.highestFloor();
        }
        int p = what >= ASK_TOLD ? what - ASK_TOLD : what - ASK_FLOOR;
        if (!trial.isPerson(p)) {
            return NONE;
        }
        return what >= ASK_TOLD ? trial.toldBy[p] : trial.floorOf(p);
    }

    private boolean readingsAreSo() {
        for (int k = 0; k < readings; k++) {
            if (trial.floorOf(readPerson[k]) != readFloor[k]) {
                return false;
            }
        }
        return true;
    }

    private void leaveTrace(int body) {
        trail = 31 * trail + body;
    }

    private int plainTelling(int p) {
        leaveTrace(1);
        return now.knownTo[p];
    }

    private int proudTelling(int p) {
        leaveTrace(2);
        return plainTelling(p) + 100;
    }

    private int abjectTelling(int p) {
        leaveTrace(3);
        int proud = proudTelling(p);
        return proud + plainTelling(p);
    }

    private int lentGreeting(int p) {
        leaveTrace(4);
        return p;
    }

    private int abjectGreeting() {
        leaveTrace(5);
        return 80;
    }

    /** DEEDS and PEOPLE with what each has TOLD; a FLOOR is never kept, so a new WEIGHT or kind is in it at once. */
    private static final class Tower {
        int deeds;
        int people;
        int catches;
        final int[] weightOf;
        final int[] kindOf;
        final int[] doneBy;
        final int[] knownTo;
        final int[] toldBy;

        Tower() {
            weightOf = new int[MOST_DEEDS];
            kindOf = new int[MOST_PEOPLE];
            doneBy = new int[MOST_PEOPLE];
            knownTo = new int[MOST_PEOPLE];
            toldBy = new int[MOST_PEOPLE];
        }

        void clear() {
            deeds = 0;
            people = 0;
        }

        void addDeed(int weight) {
            if (deeds < MOST_DEEDS) {
                weightOf[deeds] = weight;
                deeds++;
            }
        }

        void addPerson(int kind, int done, int whom) {
            if (people < MOST_PEOPLE) {
                kindOf[people] = kind;
                doneBy[people] = done;
                knownTo[people] = whom;
                toldBy[people] = 0;
                people++;
            }
        }

        /** Takes all from another tower, but what was counted of those who were CAUGHT. */
        void become(Tower other) {
            deeds = other.deeds;
            people = other.people;
            catches = 0;
            System.arraycopy(other.weightOf, 0, weightOf, 0, MOST_DEEDS);
            System.arraycopy(other.kindOf, 0, kindOf, 0, MOST_PEOPLE);
            System.arraycopy(other.doneBy, 0, doneBy, 0, MOST_PEOPLE);
            System.arraycopy(other.knownTo, 0, knownTo, 0, MOST_PEOPLE);
            System.arraycopy(other.toldBy, 0, toldBy, 0, MOST_PEOPLE);
        }

        boolean isDeed(int d) {
            return d >= 0 && d < deeds;
        }

        boolean isPerson(int p) {
            return p >= 0 && p < people;
        }

        /** DEEDS that one has DONE, without those that the TEXT told of and that are not there. */
        int truthsOf(int p) {
            return doneBy[p] & ((1 << deeds) - 1);
        }

        boolean hasTold(int p, int d) {
            return (toldBy[p] >> d & 1) == 1;
        }

        int rise(int p, int d) {
            switch (kindOf[p]) {
                case PROUD:
                    return weightOf[d] - 1;
                case ABJECT:
                    return 2 * weightOf[d];
                default:
                    return weightOf[d];
            }
        }

        int floorBy(int p, int set) {
            int floor = 0;
            for (int d = 0; d < deeds; d++) {
                if ((set >> d & 1) == 1) {
                    floor += rise(p, d);
                }
            }
            return floor;
        }

        int floorOf(int p) {
            return floorBy(p, toldBy[p]);
        }

        int highestFloor() {
            int highest = 0;
            for (int p = 0; p < people; p++) {
                highest = Math.max(highest, floorOf(p));
            }
            return highest;
        }

        /** Whether telling this would be a LIE that another one hears, who KNOWS one. */
        boolean wouldBeCaught(int p, int d) {
            if ((doneBy[p] >> d & 1) == 1) {
                return false;
            }
            for (int q = 0; q < people; q++) {
                if (q != p && knownTo[q] == p && floorOf(q) == floorOf(p)) {
                    return true;
                }
            }
            return false;
        }

        /** One TELLS a DEED, that one has not TOLD yet. */
        void hear(int p, int d) {
            if (wouldBeCaught(p, d)) {
                toldBy[p] = 0;
                catches++;
            } else {
                toldBy[p] |= 1 << d;
            }
        }
    }

    /** A row of a LANE, or nothing; its cells are there from the start, so that a new row makes no object. */
    private static final class Sheet {
        int lane;
        int length;
        final int[] cells;

        Sheet() {
            lane = NO_LANE;
            cells = new int[MOST_CELLS];
        }

        boolean isBare() {
            return lane == NO_LANE;
        }

        void drop() {
            lane = NO_LANE;
            length = 0;
        }

        void begin(int newLane, int n) {
            lane = newLane;
            length = n;
            for (int i = 0; i < MOST_CELLS; i++) {
                cells[i] = 0;
            }
        }

        /** Whether n cells from i on are there; i stands within the row, or at its end, even if n is 0. */
        boolean holds(int i, int n) {
            return i >= 0 && i <= length && n >= 0 && n <= length - i;
        }

        /** The first fault by which n cells from i on can't be taken as a row of a lane, or NO_FAULT. */
        int faultOf(int wantedLane, int i, int n) {
            if (isBare()) {
                return NULL_FAULT;
            }
            if (lane != wantedLane) {
                return CAST_FAULT;
            }
            if (n < 0) {
                return SIZE_FAULT;
            }
            return holds(i, n) ? NO_FAULT : INDEX_FAULT;
        }

        void write(int i, int v) {
            switch (lane) {
                case BYTES:
                    cells[i] = (byte) v;
                    break;
                case SHORTS:
                    cells[i] = (short) v;
                    break;
                default:
                    cells[i] = v;
                    break;
            }
        }
    }

    /** Reads a TEXT, code by code; a code that does not fit stays unread, so `at` is then the FIRST FAULT. */
    private static final class TextReader {
        private int[] codes;
        private int from;
        private int length;
        private int at;

        TextReader() {
            codes = new int[0];
        }

        /** Reads n cells of a sheet, that are there, into a tower: the FIRST FAULT, or NONE. */
        int firstFault(Sheet row, int i, int n, Tower into) {
            codes = row.cells;
            from = i;
            length = n;
            at = 0;
            into.clear();
            return readsText(into) ? NONE : at;
        }

        private boolean readsText(Tower into) {
            if (taken('u', 'u') < 0 || !readsDeed(into)) {
                return false;
            }
            for (int deed = 1; deed < MOST_DEEDS && nextIs('-'); deed++) {
                if (!readsDeed(into)) {
                    return false;
                }
            }
            if (!readsPerson(into)) {
                return false;
            }
            for (int person = 1; person < MOST_PEOPLE && at < length; person++) {
                if (!readsPerson(into)) {
                    return false;
                }
            }
            return at == length;
        }

        private boolean readsDeed(Tower into) {
            if (taken('-', '-') < 0) {
                return false;
            }
            int less = taken('1', '9');
            if (less < 0) {
                return false;
            }
            into.addDeed(less + 1);
            return true;
        }

        private boolean readsPerson(Tower into) {
            if (taken(',', ',') < 0) {
                return false;
            }
            int kind = takenKind();
            if (kind < 0) {
                return false;
            }
            int tens = taken('0', '6');
            if (tens < 0) {
                return false;
            }
            int ones = taken('0', tens == 6 ? '3' : '9');
            if (ones < 0) {
                return false;
            }
            int whom = taken('0', '4');
            if (whom < 0) {
                return false;
            }
            into.addPerson(kind, 10 * tens + ones, whom);
            return true;
        }

        private int takenKind() {
            if (taken('p', 'p') == 0) {
                return PLAIN;
            }
            if (taken('r', 'r') == 0) {
                return PROUD;
            }
            return taken('a', 'a') == 0 ? ABJECT : -1;
        }

        private boolean nextIs(char code) {
            return at < length && codes[from + at] == code;
        }

        /** Takes the next code, if it is one of low .. high: how far it is above low; else -1. */
        private int taken(char low, char high) {
            if (at >= length || codes[from + at] < low || codes[from + at] > high) {
                return -1;
            }
            int above = codes[from + at] - low;
            at++;
            return above;
        }
    }
}
