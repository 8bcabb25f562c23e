/** Footmen walk the promises of a stately town; DOC.md tells, promise by promise, what each call answers. */
public final class PromiseWalk {
    public static final int UNKNOWN = -1, OUTSIDE = -2, STATE = -3, FULL = -4, NONE = -9;
    public static final long LOST = Long.MIN_VALUE;

    private static final int NO_REFUSAL = 0;
    private static final int NO_FAULT = 0, NULL = 1, CAST = 2, INDEX = 3, SIZE = 4;
    private static final int FAULT_BASE = -10, TOLD_BASE = -100;
    private static final int BOY = 0, MAN = 1, PAIR = 2;
    private static final int BYTES = 0, SHORTS = 1, INTS = 2;
    private static final int SITS_DOWN = 0, RISES = 1, DAYS_PASS = 2;
    private static final int LEAST_CALVES = 1, MOST_CALVES = 9, MOST_LENGTH = 9;
    private static final int MOST_CORNERS = 6, MOST_FOOTMEN = 6, MOST_READINGS = 8;
    private static final int SHEETS = 4, MOST_CELLS = 60, MOST_PAIRS = 20, MOST_PAIR_DAYS = 9;
    private static final int MOST_DAYS = 99, MOST_READ = 999, WALKED_OF = 10;
    private static final int TEXT_HEAD = 2, TEXT_FOOTMAN = 5, MOST_TEXT_FOOTMEN = 5;
    private static final int BOY_BODY = 1, MAN_BODY = 2, PAIR_BODY = 3, LENT_RING_BODY = 4, PAIR_RING_BODY = 5;
    private static final int MAN_MORE = 100, PAIR_RING = 60;
    // Stands above every sum of LENGTHS and of DAYS, and two of it still fit an int.
    private static final int NEVER = 1000000;

    private final Sheet[] sheets = new Sheet[SHEETS];
    private final Streets streets = new Streets();
    private final Company company = new Company();
    private final Season season = new Season();
    private final Errands errands = new Errands();
    private final Readings readings = new Readings();
    private int day = 0;
    private int trace = 0;
    private int fault = NO_FAULT;

    public PromiseWalk() {
        for (int k = 0; k < SHEETS; k++) {
            sheets[k] = new Sheet();
        }
    }

    // ---- 1 the town

    public int town(int sheet, int lane, int i, int n) {
        fault = NO_FAULT;
        if (!isSheet(sheet)) {
            return UNKNOWN;
        }
        if (!isLane(lane)) {
            return OUTSIDE;
        }
        Sheet text = sheets[sheet];
        int found = text.faultAsRow(lane, i, n);
        if (found != NO_FAULT) {
            return faulted(found);
        }
        int firstFault = TownText.firstFault(text, i, n);
        if (firstFault != NONE) {
            return TOLD_BASE - firstFault;
        }
        TownText.take(text, i, n, streets, company);
        readings.count = 0;
        day = 0;
        return company.count;
    }

    public int ofFootman(int k, int what) {
        if (!company.has(k)) {
            return UNKNOWN;
        }
        Footman footman = company.footmen[k];
        switch (what) {
            case 0:
                return footman.kind;
            case 1:
                return footman.from;
            case 2:
                return footman.to;
            case 3:
                return footman.calves;
            case 4:
                return footman.pace();
            case 5:
                return footman.walked;
            case 6:
                return footman.sits ? 1 : 0;
            case 7:
                return footman.hasArrived(streets) ? 1 : 0;
            default:
                return OUTSIDE;
        }
    }

    public int street(int a, int b) {
        if (!streets.hasTwo(a, b)) {
            return UNKNOWN;
        }
        return streets.length(a, b);
    }

    public int pave(int a, int b, int v) {
        if (!streets.hasTwo(a, b)) {
            return UNKNOWN;
        }
        if (v < 0 || v > MOST_LENGTH) {
            return OUTSIDE;
        }
        int before = streets.length(a, b);
        streets.lay(a, b, v);
        streets.measure();
        return before;
    }

    public int far(int a, int b) {
        if (!streets.has(a) || !streets.has(b)) {
            return UNKNOWN;
        }
        return streets.distance(a, b);
    }

    // ---- 2 days

    public int days(int n) {
        if (n < 1 || n > MOST_DAYS) {
            return OUTSIDE;
        }
        if (!hasTown()) {
            return STATE;
        }
        int before = company.countArrived(streets);
        for (int passed = 0; passed < n; passed++) {
            company.passDay(streets);
        }
        day += n;
        return company.countArrived(streets) - before;
    }

    public int sit(int k) {
        if (!company.has(k)) {
            return UNKNOWN;
        }
        return company.turn(k, true) ? Integer.bitCount(company.sitters()) : STATE;
    }

    public int rise(int k) {
        if (!company.has(k)) {
            return UNKNOWN;
        }
        return company.turn(k, false) ? Integer.bitCount(company.sitters()) : STATE;
    }

    public int give(int kind, int from, int to, int calves) {
        if (!isKind(kind) || calves < LEAST_CALVES || calves > MOST_CALVES) {
            return OUTSIDE;
        }
        if (!streets.has(from) || !streets.has(to)) {
            return UNKNOWN;
        }
        if (company.count >= MOST_FOOTMEN) {
            return FULL;
        }
        company.add(kind, from, to, calves);
        return company.count - 1;
    }

    public int season(int sheet, int lane, int i, int n, int what) {
        fault = NO_FAULT;
        if (!isSheet(sheet)) {
            return UNKNOWN;
        }
        if (!isLane(lane) || n < 0 || n > MOST_PAIRS || !Season.canTell(what)) {
            return OUTSIDE;
        }
        if (!hasTown()) {
            return STATE;
        }
        Sheet acts = sheets[sheet];
        int found = acts.faultAsRow(lane, i, 2 * n);
        if (found != NO_FAULT) {
            return faulted(found);
        }
        int refusal = Season.refusal(acts, i, n, company);
        if (refusal != NO_REFUSAL) {
            return refusal;
        }
        season.play(acts, i, n, company, streets);
        return season.told(what, streets);
    }

    // ---- 3 ways

    public int way(int a, int b, int k) {
        if (!streets.has(a) || !streets.has(b)) {
            return UNKNOWN;
        }
        if (k < -1 || k >= MOST_CORNERS) {
            return OUTSIDE;
        }
        return k == -1 ? streets.cornersOnWay(a, b) : streets.cornerOnWay(a, b, k);
    }

    public int round(int k, int corner) {
        if (!company.has(k) || !streets.has(corner)) {
            return UNKNOWN;
        }
        Footman footman = company.footmen[k];
        int straight = streets.distance(footman.from, footman.to);
        int there = streets.distance(footman.from, corner);
        int onwards = streets.distance(corner, footman.to);
        if (straight == NONE || there == NONE || onwards == NONE) {
            return NONE;
        }
        return there + onwards - straight;
    }

    public int kept(int k) {
        if (!company.has(k)) {
            return UNKNOWN;
        }
        Footman footman = company.footmen[k];
        if (footman.hasArrived(streets)) {
            return 0;
        }
        int distance = streets.distance(footman.from, footman.to);
        if (footman.sits || distance == NONE) {
            return NONE;
        }
        // No town is so wide that 999 DAYS would not do.
        return daysFor(distance - footman.walked, footman.pace());
    }

    public int middle(int what) {
        if (!hasTown()) {
            return STATE;
        }
        if (what < 0 || what > 1) {
            return OUTSIDE;
        }
        int corner = streets.middleCorner();
        return corner == NONE || what == 0 ? corner : streets.farthestFrom(corner);
    }

    public int tree(int what) {
        if (!hasTown()) {
            return STATE;
        }
        if (what < 0 || what > 1) {
            return OUTSIDE;
        }
        int set = streets.leastTree();
        return set == NONE || what == 1 ? set : streets.lengthOf(set);
    }

    public int errands(int k) {
        if (!hasTown()) {
            return STATE;
        }
        if (k < -1 || k >= MOST_FOOTMEN) {
            return OUTSIDE;
        }
        errands.weigh(company, streets);
        return k == -1 ? errands.lastArrival() : errands.goalOf(k, company, streets);
    }

    // ---- 4 how far one went

    public int reading(int k, int days, int v) {
        if (!company.has(k)) {
            return UNKNOWN;
        }
        if (days < 0 || days > MOST_DAYS || v < 0 || v > MOST_READ) {
            return OUTSIDE;
        }
        if (readings.count >= MOST_READINGS) {
            return FULL;
        }
        readings.add(k, days, v);
        return readings.count - 1;
    }

    public int back(int k) {
        if (k < 0 || k > readings.count) {
            return OUTSIDE;
        }
        readings.count -= k;
        return readings.count;
    }

    public int calves(int k) {
        if (!company.has(k)) {
            return UNKNOWN;
        }
        int kind = company.footmen[k].kind;
        int set = 0;
        for (int calves = LEAST_CALVES; calves <= MOST_CALVES; calves++) {
            if (readings.allAreSo(company, k, paceOf(kind, calves))) {
                set |= 1 << calves;
            }
        }
        return set;
    }

    public int kinds(int k) {
        if (!company.has(k)) {
            return UNKNOWN;
        }
        int calves = company.footmen[k].calves;
        int set = 0;
        for (int kind = BOY; kind <= PAIR; kind++) {
            if (readings.allAreSo(company, k, paceOf(kind, calves))) {
                set |= 1 << kind;
            }
        }
        return set;
    }

    public long odds(int k, int n, int which) {
        if (!company.has(k) || n < 0 || n > MOST_DAYS || which < 0 || which > 1) {
            return LOST;
        }
        Footman footman = company.footmen[k];
        int reached = 0;
        for (int corner = 0; corner < streets.corners; corner++) {
            if (corner != footman.from && footman.daysTo(corner, streets) <= n) {
                reached++;
            }
        }
        int others = streets.corners - 1;
        int part = commonPart(reached, others);
        return which == 0 ? reached / part : others / part;
    }

    // ---- 5 sheets, parts

    public int sheet(int k, int lane, int n) {
        fault = NO_FAULT;
        if (!isSheet(k)) {
            return UNKNOWN;
        }
        if (!isLane(lane) || n > MOST_CELLS) {
            return OUTSIDE;
        }
        if (n < 0) {
            return faulted(SIZE);
        }
        sheets[k].renew(lane, n);
        return 1;
    }

    public int lose(int k) {
        if (!isSheet(k)) {
            return UNKNOWN;
        }
        int had = sheets[k].hasNothing() ? 0 : 1;
        sheets[k].clear();
        return had;
    }

    public int put(int k, int i, int v) {
        fault = NO_FAULT;
        if (!isSheet(k)) {
            return UNKNOWN;
        }
        if (sheets[k].hasNothing()) {
            return faulted(NULL);
        }
        int found = sheets[k].faultOfCells(i, 1);
        if (found != NO_FAULT) {
            return faulted(found);
        }
        sheets[k].set(i, v);
        return 1;
    }

    public long cell(int k, int i, int lane) {
        fault = NO_FAULT;
        if (!isSheet(k) || !isLane(lane)) {
            return LOST;
        }
        fault = sheets[k].faultAsRow(lane, i, 1);
        return fault == NO_FAULT ? sheets[k].at(i) : LOST;
    }

    public int copy(int k, int i, int other, int j, int n) {
        fault = NO_FAULT;
        if (!isSheet(k) || !isSheet(other)) {
            return UNKNOWN;
        }
        Sheet source = sheets[k];
        Sheet target = sheets[other];
        if (source.hasNothing() || target.hasNothing()) {
            return faulted(NULL);
        }
        if (source.lane != target.lane) {
            return faulted(CAST);
        }
        if (source.faultOfCells(i, n) != NO_FAULT || target.faultOfCells(j, n) != NO_FAULT) {
            return faulted(INDEX);
        }
        System.arraycopy(source.cells, i, target.cells, j, n);
        return n;
    }

    public int tell(int k) {
        if (!company.has(k)) {
            return UNKNOWN;
        }
        Footman footman = company.footmen[k];
        switch (footman.kind) {
            case BOY:
                return tellBoy(footman);
            case MAN:
                return tellMan(footman);
            default:
                return tellPair(footman);
        }
    }

    public int ring(int k) {
        if (!company.has(k)) {
            return UNKNOWN;
        }
        if (company.footmen[k].kind == PAIR) {
            leave(PAIR_RING_BODY);
            return PAIR_RING;
        }
        leave(LENT_RING_BODY);
        return k;
    }

    public int as(int k, int kind) {
        fault = NO_FAULT;
        if (!company.has(k)) {
            return UNKNOWN;
        }
        if (!isKind(kind)) {
            return OUTSIDE;
        }
        // Each kind is also one of every kind numbered below it.
        return company.footmen[k].kind >= kind ? 1 : faulted(CAST);
    }

    public int trace() {
        return trace;
    }

    public int fault() {
        return fault;
    }

    public int many(int what) {
        switch (what) {
            case 0:
                return company.count;
            case 1:
                return streets.corners;
            case 2:
                return day;
            case 3:
                return company.countArrived(streets);
            case 4:
                return readings.count;
            default:
                return OUTSIDE;
        }
    }

    // ---- what the calls share

    private boolean hasTown() {
        return streets.corners > 0;
    }

    private int faulted(int found) {
        fault = found;
        return FAULT_BASE - found;
    }

    private void leave(int body) {
        trace = 31 * trace + body;
    }

    private int tellBoy(Footman footman) {
        leave(BOY_BODY);
        return footman.calves;
    }

    private int tellMan(Footman footman) {
        leave(MAN_BODY);
        return tellBoy(footman) + MAN_MORE;
    }

    private int tellPair(Footman footman) {
        leave(PAIR_BODY);
        int asMan = tellMan(footman);
        return asMan + tellBoy(footman);
    }

    private static boolean isSheet(int k) {
        return k >= 0 && k < SHEETS;
    }

    private static boolean isLane(int lane) {
        return lane >= BYTES && lane <= INTS;
    }

    private static boolean isKind(int kind) {
        return kind >= BOY && kind <= PAIR;
    }

    private static int paceOf(int kind, int calves) {
        switch (kind) {
            case BOY:
                return calves;
            case MAN:
                return calves + 1;
            default:
                return (calves + 1) / 2;
        }
    }

    private static int daysFor(int distance, int pace) {
        if (distance <= 0) {
            return 0;
        }
        if (pace < 1) {
            return NEVER;
        }
        return (distance + pace - 1) / pace;
    }

    /** The greatest number that divides both (upper 0 .. lower), so that a share of 0 gets the lower number 1. */
    private static int commonPart(int upper, int lower) {
        for (int part = lower; part > 1; part--) {
            if (upper % part == 0 && lower % part == 0) {
                return part;
            }
        }
        return 1;
    }

    /** A row of numbers of a LANE, or nothing; its cells are made once and used for each new row. */
    private static final class Sheet {
        private final int[] cells = new int[MOST_CELLS];
        private int lane = NONE;
        private int size = 0;

        boolean hasNothing() {
            return lane == NONE;
        }

        void clear() {
            lane = NONE;
            size = 0;
        }

        void renew(int newLane, int newSize) {
            lane = newLane;
            size = Math.max(0, Math.min(newSize, MOST_CELLS));
            for (int i = 0; i < size; i++) {
                cells[i] = 0;
            }
        }

        int at(int i) {
            return i >= 0 && i < size ? cells[i] : 0;
        }

        void set(int i, int v) {
            if (i >= 0 && i < size) {
                cells[i] = cut(v);
            }
        }

        private int cut(int v) {
            switch (lane) {
                case BYTES:
                    return (byte) v;
                case SHORTS:
                    return (short) v;
                default:
                    return v;
            }
        }

        /** The first FAULT, if n cells from i on are taken as those of a row of a LANE. */
        int faultAsRow(int wanted, int i, int n) {
            if (hasNothing()) {
                return NULL;
            }
            if (lane != wanted) {
                return CAST;
            }
            return n < 0 ? SIZE : faultOfCells(i, n);
        }

        int faultOfCells(int i, int n) {
            // n against what is left of the row: i + n might wrap.
            return i < 0 || i > size || n < 0 || n > size - i ? INDEX : NO_FAULT;
        }
    }

    /** The TEXT of a TOWN: each code has its place, told by how many CORNERS there are. */
    private static final class TownText {
        static int firstFault(Sheet text, int i, int n) {
            for (int place = 0; place < n; place++) {
                if (!goesOn(text, i, place)) {
                    return place;
                }
            }
            return isWhole(text, i, n) ? NONE : n;
        }

        private static boolean goesOn(Sheet text, int i, int place) {
            int code = text.at(i + place);
            if (place == 0) {
                return code == 't';
            }
            if (place == 1) {
                return code >= '2' && code <= '6';
            }
            int corners = digit(text, i + 1);
            int behind = place - headLength(corners);
            if (behind < 0) {
                return code >= '0' && code <= '9';
            }
            return behind < MOST_TEXT_FOOTMEN * TEXT_FOOTMAN && tellsFootman(code, behind % TEXT_FOOTMAN, corners);
        }

        private static boolean tellsFootman(int code, int part, int corners) {
            switch (part) {
                case 0:
                    return code == ';';
                case 1:
                    return kindOf(code) != NONE;
                case 2:
                case 3:
                    return code >= '0' && code < '0' + corners;
                default:
                    return code >= '1' && code <= '9';
            }
        }

        private static boolean isWhole(Sheet text, int i, int n) {
            if (n < TEXT_HEAD) {
                return false;
            }
            int behind = n - headLength(digit(text, i + 1));
            return behind >= TEXT_FOOTMAN && behind % TEXT_FOOTMAN == 0;
        }

        /** Makes CORNERS, STREETS and FOOTMEN anew by a TEXT without a FIRST FAULT. */
        static void take(Sheet text, int i, int n, Streets streets, Company company) {
            streets.renew(digit(text, i + 1));
            int place = i + TEXT_HEAD;
            for (int a = 0; a < streets.corners; a++) {
                for (int b = a + 1; b < streets.corners; b++) {
                    streets.lay(a, b, digit(text, place));
                    place++;
                }
            }
            streets.measure();
            company.count = 0;
            for (; place + TEXT_FOOTMAN <= i + n; place += TEXT_FOOTMAN) {
                int kind = kindOf(text.at(place + 1));
                company.add(kind, digit(text, place + 2), digit(text, place + 3), digit(text, place + 4));
            }
        }

        private static int headLength(int corners) {
            return TEXT_HEAD + corners * (corners - 1) / 2;
        }

        private static int digit(Sheet text, int i) {
            return text.at(i) - '0';
        }

        private static int kindOf(int code) {
            switch (code) {
                case 'b':
                    return BOY;
                case 'm':
                    return MAN;
                case 'p':
                    return PAIR;
                default:
                    return NONE;
            }
        }
    }

    /** CORNERS, the STREETS between them, and how FAR it is from each to each (NEVER: there is no way). */
    private static final class Streets {
        private final int[] lengths = new int[MOST_CORNERS * MOST_CORNERS];
        private final int[] fars = new int[MOST_CORNERS * MOST_CORNERS];
        private final int[] groups = new int[MOST_CORNERS];
        private int corners = 0;

        boolean has(int corner) {
            return corner >= 0 && corner < corners;
        }

        boolean hasTwo(int a, int b) {
            return has(a) && has(b) && a != b;
        }

        void renew(int newCorners) {
            corners = Math.max(0, Math.min(newCorners, MOST_CORNERS));
            for (int at = 0; at < lengths.length; at++) {
                lengths[at] = 0;
            }
        }

        int length(int a, int b) {
            return has(a) && has(b) ? lengths[a * MOST_CORNERS + b] : 0;
        }

        void lay(int a, int b, int v) {
            if (hasTwo(a, b)) {
                lengths[a * MOST_CORNERS + b] = v;
                lengths[b * MOST_CORNERS + a] = v;
            }
        }

        /** Finds anew how FAR it is from each to each: due whenever a STREET was laid. */
        void measure() {
            for (int a = 0; a < corners; a++) {
                for (int b = 0; b < corners; b++) {
                    int length = length(a, b);
                    fars[a * MOST_CORNERS + b] = a == b ? 0 : length == 0 ? NEVER : length;
                }
            }
            for (int by = 0; by < corners; by++) {
                shortenBy(by);
            }
        }

        private void shortenBy(int by) {
            for (int a = 0; a < corners; a++) {
                for (int b = 0; b < corners; b++) {
                    int round = fars[a * MOST_CORNERS + by] + fars[by * MOST_CORNERS + b];
                    if (round < fars[a * MOST_CORNERS + b]) {
                        fars[a * MOST_CORNERS + b] = round;
                    }
                }
            }
        }

        int distance(int a, int b) {
            if (!has(a) || !has(b)) {
                return NONE;
            }
            int far = fars[a * MOST_CORNERS + b];
            return far < NEVER ? far : NONE;
        }

        int cornersOnWay(int a, int b) {
            int count = 1;
            int corner = a;
            while (corner != b && count <= MOST_CORNERS) {
                corner = nextOnWay(corner, b);
                if (corner == NONE) {
                    return NONE;
                }
                count++;
            }
            return count;
        }

        int cornerOnWay(int a, int b, int k) {
            if (distance(a, b) == NONE) {
                return NONE;
            }
            int corner = a;
            for (int passed = 0; passed < k && corner != NONE; passed++) {
                corner = nextOnWay(corner, b);
            }
            return corner;
        }

        /** The least CORNER next on a shortest way: so the row that they make is the first one. */
        private int nextOnWay(int corner, int goal) {
            int left = distance(corner, goal);
            for (int next = 0; next < corners; next++) {
                int length = length(corner, next);
                int onwards = distance(next, goal);
                if (length > 0 && left != NONE && onwards != NONE && length + onwards == left) {
                    return next;
                }
            }
            return NONE;
        }

        int middleCorner() {
            int middle = NONE;
            int least = NEVER;
            for (int corner = 0; corner < corners; corner++) {
                int farthest = farthestFrom(corner);
                if (farthest != NONE && farthest < least) {
                    middle = corner;
                    least = farthest;
                }
            }
            return middle;
        }

        int farthestFrom(int corner) {
            int farthest = 0;
            for (int other = 0; other < corners; other++) {
                int far = distance(corner, other);
                if (far == NONE) {
                    return NONE;
                }
                farthest = Math.max(farthest, far);
            }
            return farthest;
        }

        /** STREETS from the shortest on, of one LENGTH by their numbers: so of several sets the least comes out. */
        int leastTree() {
            for (int corner = 0; corner < corners; corner++) {
                groups[corner] = corner;
            }
            int set = 0;
            for (int length = 1; length <= MOST_LENGTH; length++) {
                set |= joinBy(length);
            }
            return Integer.bitCount(set) == corners - 1 ? set : NONE;
        }

        private int joinBy(int length) {
            int set = 0;
            int number = 0;
            for (int a = 0; a < corners; a++) {
                for (int b = a + 1; b < corners; b++) {
                    if (length(a, b) == length && groups[a] != groups[b]) {
                        joinGroups(groups[a], groups[b]);
                        set |= 1 << number;
                    }
                    number++;
                }
            }
            return set;
        }

        private void joinGroups(int group, int other) {
            for (int corner = 0; corner < corners; corner++) {
                if (groups[corner] == other) {
                    groups[corner] = group;
                }
            }
        }

        int lengthOf(int set) {
            int sum = 0;
            int number = 0;
            for (int a = 0; a < corners; a++) {
                for (int b = a + 1; b < corners; b++) {
                    if ((set >> number & 1) == 1) {
                        sum += length(a, b);
                    }
                    number++;
                }
            }
            return sum;
        }
    }

    /** One who walks. */
    private static final class Footman {
        private int kind = BOY;
        private int from = 0;
        private int to = 0;
        private int calves = LEAST_CALVES;
        private int walked = 0;
        private boolean sits = false;

        void copyFrom(Footman other) {
            kind = other.kind;
            from = other.from;
            to = other.to;
            calves = other.calves;
            walked = other.walked;
            sits = other.sits;
        }

        int pace() {
            return paceOf(kind, calves);
        }

        boolean hasArrived(Streets streets) {
            int distance = streets.distance(from, to);
            return distance != NONE && walked >= distance;
        }

        /** DAYS to a CORNER, if it sets off anew; NEVER: it does not come there. */
        int daysTo(int corner, Streets streets) {
            int distance = streets.distance(from, corner);
            return distance == NONE ? NEVER : daysFor(distance, pace());
        }
    }

    /** All FOOTMEN; those from count on are spare ones. */
    private static final class Company {
        private final Footman[] footmen = new Footman[MOST_FOOTMEN];
        private int count = 0;

        Company() {
            for (int k = 0; k < MOST_FOOTMEN; k++) {
                footmen[k] = new Footman();
            }
        }

        boolean has(int k) {
            return k >= 0 && k < count;
        }

        void add(int kind, int from, int to, int calves) {
            if (count >= MOST_FOOTMEN) {
                return;
            }
            Footman footman = footmen[count];
            footman.kind = kind;
            footman.from = from;
            footman.to = to;
            footman.calves = calves;
            footman.walked = 0;
            footman.sits = false;
            count++;
        }

        void copyFrom(Company other) {
            count = other.count;
            for (int k = 0; k < count; k++) {
                footmen[k].copyFrom(other.footmen[k]);
            }
        }

        /** Whether a FOOTMAN could sit down, or rise; if so it has. */
        boolean turn(int k, boolean sits) {
            if (!has(k) || footmen[k].sits == sits) {
                return false;
            }
            footmen[k].sits = sits;
            return true;
        }

        void passDay(Streets streets) {
            for (int k = 0; k < count; k++) {
                Footman footman = footmen[k];
                if (!footman.sits && !footman.hasArrived(streets)) {
                    footman.walked += footman.pace();
                }
            }
        }

        int countArrived(Streets streets) {
            int arrived = 0;
            for (int k = 0; k < count; k++) {
                if (footmen[k].hasArrived(streets)) {
                    arrived++;
                }
            }
            return arrived;
        }

        boolean allArrived(Streets streets) {
            return countArrived(streets) == count;
        }

        int sitters() {
            int set = 0;
            for (int k = 0; k < count; k++) {
                if (footmen[k].sits) {
                    set |= 1 << k;
                }
            }
            return set;
        }

        int walkedTogether() {
            int sum = 0;
            for (int k = 0; k < count; k++) {
                sum += footmen[k].walked;
            }
            return sum;
        }
    }

    /** A SEASON, played by doubles of the FOOTMEN so that they themselves stay as they are. */
    private static final class Season {
        private final Company doubles = new Company();
        private int firstWrong = NONE;
        private int daysPassed = 0;
        private int allArrivedBehind = NONE;
        private int walkedAhead = 0;

        static boolean canTell(int what) {
            return what >= 0 && what <= 4 || what >= WALKED_OF && what < WALKED_OF + MOST_FOOTMEN;
        }

        /** Why the pairs are no acts at all; of several pairs the first one tells. */
        static int refusal(Sheet acts, int i, int n, Company company) {
            for (int pair = 0; pair < n; pair++) {
                int first = acts.at(i + 2 * pair);
                int act = acts.at(i + 2 * pair + 1);
                if (act < SITS_DOWN || act > DAYS_PASS) {
                    return OUTSIDE;
                }
                if (act == DAYS_PASS && (first < 0 || first > MOST_PAIR_DAYS)) {
                    return OUTSIDE;
                }
                if (act != DAYS_PASS && !company.has(first)) {
                    return UNKNOWN;
                }
            }
            return NO_REFUSAL;
        }

        void play(Sheet acts, int i, int n, Company company, Streets streets) {
            doubles.copyFrom(company);
            firstWrong = NONE;
            daysPassed = 0;
            allArrivedBehind = doubles.allArrived(streets) ? 0 : NONE;
            walkedAhead = doubles.walkedTogether();
            for (int pair = 0; pair < n && firstWrong == NONE; pair++) {
                int first = acts.at(i + 2 * pair);
                int act = acts.at(i + 2 * pair + 1);
                if (act == DAYS_PASS) {
                    passDays(first, streets);
                } else if (!doubles.turn(first, act == SITS_DOWN)) {
                    firstWrong = pair;
                }
            }
        }

        private void passDays(int n, Streets streets) {
            for (int passed = 0; passed < n; passed++) {
                doubles.passDay(streets);
                daysPassed++;
                if (allArrivedBehind == NONE && doubles.allArrived(streets)) {
                    allArrivedBehind = daysPassed;
                }
            }
        }

        int told(int what, Streets streets) {
            if (what == 1) {
                return firstWrong;
            }
            if (firstWrong != NONE) {
                return TOLD_BASE - firstWrong;
            }
            switch (what) {
                case 0:
                    return doubles.countArrived(streets);
                case 2:
                    return doubles.sitters();
                case 3:
                    return doubles.walkedTogether() - walkedAhead;
                case 4:
                    return allArrivedBehind;
                default:
                    return doubles.has(what - WALKED_OF) ? doubles.footmen[what - WALKED_OF].walked : NONE;
            }
        }
    }

    /** Who should go whither so that all are kept soonest. */
    private static final class Errands {
        // By the set of goals that are given away to as many first FOOTMEN: when the last of the others arrives.
        private final int[] soonest = new int[1 << MOST_FOOTMEN];

        void weigh(Company company, Streets streets) {
            int all = (1 << company.count) - 1;
            soonest[all] = 0;
            for (int given = all - 1; given >= 0; given--) {
                soonest[given] = NEVER;
                for (int goal = 0; goal < company.count; goal++) {
                    if ((given >> goal & 1) == 0) {
                        soonest[given] = Math.min(soonest[given], arrivalWith(given, goal, company, streets));
                    }
                }
            }
        }

        /** When the last of those who have no goal yet arrives, if the next of them gets this one. */
        private int arrivalWith(int given, int goal, Company company, Streets streets) {
            int next = Integer.bitCount(given);
            if (!company.has(next) || !company.has(goal)) {
                return NEVER;
            }
            int days = company.footmen[next].daysTo(company.footmen[goal].to, streets);
            return Math.max(days, soonest[given | 1 << goal]);
        }

        int lastArrival() {
            return soonest[0] < NEVER ? soonest[0] : NONE;
        }

        int goalOf(int k, Company company, Streets streets) {
            if (!company.has(k) || soonest[0] >= NEVER) {
                return NONE;
            }
            int given = 0;
            int corner = NONE;
            for (int footman = 0; footman <= k; footman++) {
                int goal = leastGoal(given, company, streets);
                if (goal == NONE) {
                    return NONE;
                }
                given |= 1 << goal;
                corner = company.footmen[goal].to;
            }
            return corner;
        }

        /** The goal with the least CORNER by which the next FOOTMAN still leaves the soonest arrival to all. */
        private int leastGoal(int given, Company company, Streets streets) {
            int least = NONE;
            for (int goal = 0; goal < company.count; goal++) {
                boolean free = (given >> goal & 1) == 0;
                if (free && arrivalWith(given, goal, company, streets) <= soonest[0]
                        && (least == NONE || company.footmen[goal].to < company.footmen[least].to)) {
                    least = goal;
                }
            }
            return least;
        }
    }

    /** READINGS, the first one first. */
    private static final class Readings {
        private final int[] who = new int[MOST_READINGS];
        private final int[] inDays = new int[MOST_READINGS];
        private final int[] walked = new int[MOST_READINGS];
        private int count = 0;

        void add(int k, int days, int v) {
            if (count < MOST_READINGS) {
                who[count] = k;
                inDays[count] = days;
                walked[count] = v;
                count++;
            }
        }

        /** Whether all READINGS are so, if FOOTMAN k had this pace in place of its own. */
        boolean allAreSo(Company company, int k, int pace) {
            for (int number = 0; number < count; number++) {
                int walker = who[number];
                if (!company.has(walker)) {
                    return false;
                }
                int itsPace = walker == k ? pace : company.footmen[walker].pace();
                if (itsPace * inDays[number] != walked[number]) {
                    return false;
                }
            }
            return true;
        }
    }
}
