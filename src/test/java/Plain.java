import java.util.ArrayList;
import java.util.Arrays;
import java.util.List;
import java.util.regex.Matcher;
import java.util.regex.Pattern;

/**
 * The document a second time, as slowly and as literally as can be, to hold the program against:
 * ways are found by walking all of them, trees by trying all sets, errands by trying all rows, days by letting them go by.
 */
final class Plain {
    static final int UNKNOWN = -1, OUTSIDE = -2, STATE = -3, FULL = -4, NONE = -9;
    static final long LOST = Long.MIN_VALUE;

    /** Kinds as kinds: a MAN is a BOY, a PAIR is a MAN. */
    private static class Boy implements Rung {
        final int from, to, calves;
        int walked = 0;
        boolean sits = false;

        Boy(int from, int to, int calves) {
            this.from = from;
            this.to = to;
            this.calves = calves;
        }

        int kind() {
            return 0;
        }

        int pace() {
            return calves;
        }

        int tell(Plain p) {
            p.trace = p.trace * 31 + 1;
            return calves;
        }
    }

    private static class Man extends Boy {
        Man(int from, int to, int calves) {
            super(from, to, calves);
        }

        @Override
        int kind() {
            return 1;
        }

        @Override
        int pace() {
            return super.pace() + 1;
        }

        @Override
        int tell(Plain p) {
            p.trace = p.trace * 31 + 2;
            return super.tell(p) + 100;
        }

        int tellLeftOut(Plain p) {
            return super.tell(p);
        }
    }

    private static final class Pair extends Man {
        Pair(int from, int to, int calves) {
            super(from, to, calves);
        }

        @Override
        int kind() {
            return 2;
        }

        @Override
        int pace() {
            return super.pace() / 2;
        }

        @Override
        int tell(Plain p) {
            p.trace = p.trace * 31 + 3;
            return super.tell(p) + tellLeftOut(p);
        }

        @Override
        public int ring(Plain p, int number) {
            p.trace = p.trace * 31 + 5;
            return 60;
        }
    }

    private interface Rung {
        default int ring(Plain p, int number) {
            p.trace = p.trace * 31 + 4;
            return number;
        }
    }

    private static Boy footman(int kind, int from, int to, int calves) {
        return kind == 0 ? new Boy(from, to, calves) : kind == 1 ? new Man(from, to, calves) : new Pair(from, to, calves);
    }

    private int corners = 0;
    private int[][] street = new int[0][0];
    private List<Boy> footmen = new ArrayList<>();
    private List<int[]> readings = new ArrayList<>();
    private final Object[] sheets = new Object[4];
    private int day = 0, trace = 0, fault = 0;

    // ---- SHEETS and FAULTS

    private static int lane(Object row) {
        return row instanceof byte[] ? 0 : row instanceof short[] ? 1 : 2;
    }

    private static int size(Object row) {
        return row instanceof byte[] ? ((byte[]) row).length : row instanceof short[] ? ((short[]) row).length : ((int[]) row).length;
    }

    private static int at(Object row, int i) {
        return row instanceof byte[] ? ((byte[]) row)[i] : row instanceof short[] ? ((short[]) row)[i] : ((int[]) row)[i];
    }

    private static void set(Object row, int i, int v) {
        if (row instanceof byte[]) {
            ((byte[]) row)[i] = (byte) v;
        } else if (row instanceof short[]) {
            ((short[]) row)[i] = (short) v;
        } else {
            ((int[]) row)[i] = v;
        }
    }

    private static boolean within(Object row, long i, long n) {
        return i >= 0 && n >= 0 && i + n <= size(row);
    }

    private static boolean in(int v, int least, int most) {
        return v >= least && v <= most;
    }

    private int fails(int which) {
        fault = which;
        return -10 - which;
    }

    private boolean footmanIs(int k) {
        return in(k, 0, footmen.size() - 1);
    }

    private boolean cornerIs(int a) {
        return in(a, 0, corners - 1);
    }

    // ---- 1

    private static Pattern textOf(int corners) {
        int streets = corners * (corners - 1) / 2;
        String corner = "[0-" + (corners - 1) + "]";
        return Pattern.compile("t" + corners + "[0-9]{" + streets + "}(;[bmp]" + corner + corner + "[1-9]){1,5}");
    }

    private static final Pattern[] TEXTS = {textOf(2), textOf(3), textOf(4), textOf(5), textOf(6)};

    private static boolean isText(String text) {
        return Arrays.stream(TEXTS).anyMatch(pattern -> pattern.matcher(text).matches());
    }

    private static boolean begins(String text) {
        for (Pattern pattern : TEXTS) {
            Matcher matcher = pattern.matcher(text);
            if (matcher.matches() || matcher.hitEnd()) {
                return true;
            }
        }
        return false;
    }

    int town(int sheet, int lane, int i, int n) {
        fault = 0;
        if (!in(sheet, 0, 3)) {
            return UNKNOWN;
        }
        if (!in(lane, 0, 2)) {
            return OUTSIDE;
        }
        Object row = sheets[sheet];
        if (row != null && lane(row) != lane) {
            return fails(2);
        }
        if (row == null) {
            return fails(1);
        }
        if (n < 0) {
            return fails(4);
        }
        if (!within(row, i, n)) {
            return fails(3);
        }
        StringBuilder text = new StringBuilder();
        for (int place = 0; place < n; place++) {
            int code = at(row, i + place);
            text.append(in(code, 1, 127) ? (char) code : '?');
            if (!begins(text.toString())) {
                return -100 - place;
            }
        }
        if (!isText(text.toString())) {
            return -100 - n;
        }
        take(text.toString());
        return footmen.size();
    }

    private void take(String text) {
        String[] parts = text.split(";");
        corners = parts[0].charAt(1) - '0';
        street = new int[corners][corners];
        int place = 2;
        for (int a = 0; a < corners; a++) {
            for (int b = a + 1; b < corners; b++) {
                street[a][b] = parts[0].charAt(place++) - '0';
                street[b][a] = street[a][b];
            }
        }
        footmen = new ArrayList<>();
        readings = new ArrayList<>();
        day = 0;
        for (int part = 1; part < parts.length; part++) {
            String one = parts[part];
            footmen.add(footman("bmp".indexOf(one.charAt(0)), one.charAt(1) - '0', one.charAt(2) - '0', one.charAt(3) - '0'));
        }
    }

    private boolean arrived(Boy f) {
        int far = far(f.from, f.to);
        return far != NONE && f.walked >= far;
    }

    private int arrivedOf(List<Boy> some) {
        return (int) some.stream().filter(this::arrived).count();
    }

    int ofFootman(int k, int what) {
        if (!footmanIs(k)) {
            return UNKNOWN;
        }
        if (!in(what, 0, 7)) {
            return OUTSIDE;
        }
        Boy f = footmen.get(k);
        return new int[] {f.kind(), f.from, f.to, f.calves, f.pace(), f.walked, f.sits ? 1 : 0, arrived(f) ? 1 : 0}[what];
    }

    int street(int a, int b) {
        return !cornerIs(a) || !cornerIs(b) || a == b ? UNKNOWN : street[a][b];
    }

    int pave(int a, int b, int v) {
        if (!cornerIs(a) || !cornerIs(b) || a == b) {
            return UNKNOWN;
        }
        if (!in(v, 0, 9)) {
            return OUTSIDE;
        }
        int was = street[a][b];
        street[a][b] = v;
        street[b][a] = v;
        return was;
    }

    private static int lengthOf(List<Integer> row, int[][] street) {
        int length = 0;
        for (int i = 1; i < row.size(); i++) {
            length += street[row.get(i - 1)][row.get(i)];
        }
        return length;
    }

    /** All ways without a CORNER twice, the first row first. */
    private void ways(List<Integer> row, int goal, List<List<Integer>> found) {
        int last = row.get(row.size() - 1);
        if (last == goal) {
            found.add(new ArrayList<>(row));
            return;
        }
        for (int next = 0; next < corners; next++) {
            if (street[last][next] > 0 && !row.contains(next)) {
                row.add(next);
                ways(row, goal, found);
                row.remove(row.size() - 1);
            }
        }
    }

    private List<Integer> shortest(int a, int b) {
        List<List<Integer>> found = new ArrayList<>();
        ways(new ArrayList<>(List.of(a)), b, found);
        List<Integer> best = null;
        for (List<Integer> row : found) {
            if (best == null || lengthOf(row, street) < lengthOf(best, street)) {
                best = row;
            }
        }
        return best;
    }

    int far(int a, int b) {
        if (!cornerIs(a) || !cornerIs(b)) {
            return UNKNOWN;
        }
        List<Integer> row = shortest(a, b);
        return row == null ? NONE : lengthOf(row, street);
    }

    // ---- 2

    private void pass(List<Boy> some) {
        for (Boy f : some) {
            if (!f.sits && !arrived(f)) {
                f.walked += f.pace();
            }
        }
    }

    int days(int n) {
        if (!in(n, 1, 99)) {
            return OUTSIDE;
        }
        if (corners == 0) {
            return STATE;
        }
        int sum = 0;
        for (int d = 0; d < n; d++) {
            int before = arrivedOf(footmen);
            pass(footmen);
            sum += arrivedOf(footmen) - before;
        }
        day += n;
        return sum;
    }

    private int sitters(List<Boy> some) {
        int set = 0;
        for (int k = 0; k < some.size(); k++) {
            set += some.get(k).sits ? 1 << k : 0;
        }
        return set;
    }

    int sit(int k) {
        if (!footmanIs(k)) {
            return UNKNOWN;
        }
        if (footmen.get(k).sits) {
            return STATE;
        }
        footmen.get(k).sits = true;
        return (int) footmen.stream().filter(f -> f.sits).count();
    }

    int rise(int k) {
        if (!footmanIs(k)) {
            return UNKNOWN;
        }
        if (!footmen.get(k).sits) {
            return STATE;
        }
        footmen.get(k).sits = false;
        return (int) footmen.stream().filter(f -> f.sits).count();
    }

    int give(int kind, int from, int to, int calves) {
        if (!in(kind, 0, 2) || !in(calves, 1, 9)) {
            return OUTSIDE;
        }
        if (!cornerIs(from) || !cornerIs(to)) {
            return UNKNOWN;
        }
        if (footmen.size() == 6) {
            return FULL;
        }
        footmen.add(footman(kind, from, to, calves));
        return footmen.size() - 1;
    }

    private List<Boy> doubles() {
        List<Boy> made = new ArrayList<>();
        for (Boy f : footmen) {
            Boy other = footman(f.kind(), f.from, f.to, f.calves);
            other.walked = f.walked;
            other.sits = f.sits;
            made.add(other);
        }
        return made;
    }

    int season(int sheet, int lane, int i, int n, int what) {
        fault = 0;
        if (!in(sheet, 0, 3)) {
            return UNKNOWN;
        }
        if (!in(lane, 0, 2) || !in(n, 0, 20) || !in(what, 0, 4) && !in(what, 10, 15)) {
            return OUTSIDE;
        }
        if (corners == 0) {
            return STATE;
        }
        Object row = sheets[sheet];
        if (row != null && lane(row) != lane) {
            return fails(2);
        }
        if (row == null) {
            return fails(1);
        }
        if (!within(row, i, 2L * n)) {
            return fails(3);
        }
        List<int[]> pairs = new ArrayList<>();
        for (int p = 0; p < n; p++) {
            pairs.add(new int[] {at(row, i + 2 * p), at(row, i + 2 * p + 1)});
        }
        for (int[] pair : pairs) {
            if (!in(pair[1], 0, 2) || pair[1] == 2 && !in(pair[0], 0, 9)) {
                return OUTSIDE;
            }
            if (pair[1] != 2 && !footmanIs(pair[0])) {
                return UNKNOWN;
            }
        }
        return played(pairs, what);
    }

    private int played(List<int[]> pairs, int what) {
        List<Boy> now = doubles();
        List<Boolean> allBehind = new ArrayList<>();
        allBehind.add(arrivedOf(now) == now.size());
        for (int p = 0; p < pairs.size(); p++) {
            int first = pairs.get(p)[0];
            int act = pairs.get(p)[1];
            if (act == 2) {
                for (int d = 0; d < first; d++) {
                    pass(now);
                    allBehind.add(arrivedOf(now) == now.size());
                }
            } else if (now.get(first).sits == (act == 0)) {
                return what == 1 ? p : -100 - p;
            } else {
                now.get(first).sits = act == 0;
            }
        }
        switch (what) {
            case 0:
                return arrivedOf(now);
            case 1:
                return NONE;
            case 2:
                return sitters(now);
            case 3:
                return now.stream().mapToInt(f -> f.walked).sum() - footmen.stream().mapToInt(f -> f.walked).sum();
            case 4:
                return allBehind.contains(true) ? allBehind.indexOf(true) : NONE;
            default:
                return what - 10 < now.size() ? now.get(what - 10).walked : NONE;
        }
    }

    // ---- 3

    int way(int a, int b, int k) {
        if (!cornerIs(a) || !cornerIs(b)) {
            return UNKNOWN;
        }
        if (!in(k, -1, 5)) {
            return OUTSIDE;
        }
        List<Integer> row = shortest(a, b);
        if (row == null) {
            return NONE;
        }
        return k == -1 ? row.size() : k < row.size() ? row.get(k) : NONE;
    }

    int round(int k, int corner) {
        if (!footmanIs(k) || !cornerIs(corner)) {
            return UNKNOWN;
        }
        Boy f = footmen.get(k);
        if (far(f.from, corner) == NONE || far(corner, f.to) == NONE) {
            return NONE;
        }
        return far(f.from, corner) + far(corner, f.to) - far(f.from, f.to);
    }

    int kept(int k) {
        if (!footmanIs(k)) {
            return UNKNOWN;
        }
        List<Boy> one = List.of(doubles().get(k));
        for (int d = 0; d <= 60; d++) {
            if (arrivedOf(one) == 1) {
                return d;
            }
            pass(one);
        }
        return NONE;
    }

    int middle(int what) {
        if (corners == 0) {
            return STATE;
        }
        if (!in(what, 0, 1)) {
            return OUTSIDE;
        }
        for (int far = 0; far <= 45; far++) {
            for (int a = 0; a < corners; a++) {
                if (allWithin(a, far)) {
                    return what == 0 ? a : far;
                }
            }
        }
        return NONE;
    }

    private boolean allWithin(int a, int far) {
        for (int b = 0; b < corners; b++) {
            if (far(a, b) == NONE || far(a, b) > far) {
                return false;
            }
        }
        return true;
    }

    int tree(int what) {
        if (corners == 0) {
            return STATE;
        }
        if (!in(what, 0, 1)) {
            return OUTSIDE;
        }
        List<int[]> all = new ArrayList<>();
        for (int a = 0; a < corners; a++) {
            for (int b = a + 1; b < corners; b++) {
                all.add(new int[] {a, b});
            }
        }
        int best = NONE;
        int least = Integer.MAX_VALUE;
        for (int set = 0; set < 1 << all.size(); set++) {
            int length = hangTogether(all, set);
            if (length >= 0 && length < least) {
                best = set;
                least = length;
            }
        }
        return best == NONE ? NONE : what == 0 ? least : best;
    }

    /** LENGTHS together of the STREETS of a set; -1: there is one that is none, or not all CORNERS hang together by them. */
    private int hangTogether(List<int[]> all, int set) {
        int length = 0;
        int reached = 1;
        for (int number = 0; number < all.size(); number++) {
            if ((set & 1 << number) != 0) {
                int one = street[all.get(number)[0]][all.get(number)[1]];
                if (one == 0) {
                    return -1;
                }
                length += one;
            }
        }
        for (int again = 0; again < corners; again++) {
            for (int number = 0; number < all.size(); number++) {
                int two = 1 << all.get(number)[0] | 1 << all.get(number)[1];
                if ((set & 1 << number) != 0 && (reached & two) != 0) {
                    reached |= two;
                }
            }
        }
        return reached == (1 << corners) - 1 ? length : -1;
    }

    private int daysAnew(Boy f, int to, int most) {
        int far = far(f.from, to);
        for (int d = 0; d <= most && far != NONE; d++) {
            if (f.pace() * d >= far) {
                return d;
            }
        }
        return NONE;
    }

    int errands(int k) {
        if (corners == 0) {
            return STATE;
        }
        if (!in(k, -1, 5)) {
            return OUTSIDE;
        }
        int[][] need = new int[footmen.size()][corners];
        for (int f = 0; f < need.length; f++) {
            for (int c = 0; c < corners; c++) {
                need[f][c] = daysAnew(footmen.get(f), c, 60);
            }
        }
        List<Integer> goals = new ArrayList<>();
        footmen.forEach(f -> goals.add(f.to));
        goals.sort(null);
        int[] best = new int[7];
        best[6] = Integer.MAX_VALUE;
        rows(new ArrayList<>(), goals, need, best);
        if (best[6] == Integer.MAX_VALUE) {
            return NONE;
        }
        return k == -1 ? best[6] : k < footmen.size() ? best[k] : NONE;
    }

    /** Tries all rows, the first one first; best holds the best row, and behind it its days. */
    private void rows(List<Integer> row, List<Integer> left, int[][] need, int[] best) {
        if (left.isEmpty()) {
            int last = 0;
            for (int k = 0; k < row.size(); k++) {
                int one = need[k][row.get(k)];
                last = Math.max(last, one == NONE ? Integer.MAX_VALUE : one);
            }
            if (last < best[6]) {
                best[6] = last;
                for (int k = 0; k < row.size(); k++) {
                    best[k] = row.get(k);
                }
            }
            return;
        }
        for (int g = 0; g < left.size(); g++) {
            List<Integer> others = new ArrayList<>(left);
            row.add(others.remove(g));
            rows(row, others, need, best);
            row.remove(row.size() - 1);
        }
    }

    // ---- 4

    int reading(int k, int days, int v) {
        if (!footmanIs(k)) {
            return UNKNOWN;
        }
        if (!in(days, 0, 99) || !in(v, 0, 999)) {
            return OUTSIDE;
        }
        if (readings.size() == 8) {
            return FULL;
        }
        readings.add(new int[] {k, days, v});
        return readings.size() - 1;
    }

    int back(int k) {
        if (!in(k, 0, readings.size())) {
            return OUTSIDE;
        }
        readings = new ArrayList<>(readings.subList(0, readings.size() - k));
        return readings.size();
    }

    private boolean readingsSo(int k, Boy inPlace) {
        List<Boy> some = new ArrayList<>(footmen);
        some.set(k, inPlace);
        return readings.stream().allMatch(r -> some.get(r[0]).pace() * r[1] == r[2]);
    }

    int calves(int k) {
        if (!footmanIs(k)) {
            return UNKNOWN;
        }
        int set = 0;
        for (int c = 1; c <= 9; c++) {
            set += readingsSo(k, footman(footmen.get(k).kind(), 0, 0, c)) ? 1 << c : 0;
        }
        return set;
    }

    int kinds(int k) {
        if (!footmanIs(k)) {
            return UNKNOWN;
        }
        int set = 0;
        for (int kind = 0; kind <= 2; kind++) {
            set += readingsSo(k, footman(kind, 0, 0, footmen.get(k).calves)) ? 1 << kind : 0;
        }
        return set;
    }

    long odds(int k, int n, int which) {
        if (!footmanIs(k) || !in(n, 0, 99) || !in(which, 0, 1)) {
            return LOST;
        }
        int upper = 0;
        for (int c = 0; c < corners; c++) {
            if (c != footmen.get(k).from && daysAnew(footmen.get(k), c, n) != NONE) {
                upper++;
            }
        }
        for (int lower = 1; lower < corners; lower++) {
            if (upper * lower % (corners - 1) == 0) {
                return which == 0 ? upper * lower / (corners - 1) : lower;
            }
        }
        return 0;
    }

    // ---- 5

    int sheet(int k, int lane, int n) {
        fault = 0;
        if (!in(k, 0, 3)) {
            return UNKNOWN;
        }
        if (!in(lane, 0, 2) || n > 60) {
            return OUTSIDE;
        }
        if (n < 0) {
            return fails(4);
        }
        sheets[k] = lane == 0 ? new byte[n] : lane == 1 ? new short[n] : new int[n];
        return 1;
    }

    int lose(int k) {
        if (!in(k, 0, 3)) {
            return UNKNOWN;
        }
        int had = sheets[k] == null ? 0 : 1;
        sheets[k] = null;
        return had;
    }

    int put(int k, int i, int v) {
        fault = 0;
        if (!in(k, 0, 3)) {
            return UNKNOWN;
        }
        if (sheets[k] == null) {
            return fails(1);
        }
        if (!within(sheets[k], i, 1)) {
            return fails(3);
        }
        set(sheets[k], i, v);
        return 1;
    }

    long cell(int k, int i, int lane) {
        fault = 0;
        if (!in(k, 0, 3) || !in(lane, 0, 2)) {
            return LOST;
        }
        if (sheets[k] != null && lane(sheets[k]) != lane) {
            fault = 2;
        } else if (sheets[k] == null) {
            fault = 1;
        } else if (!within(sheets[k], i, 1)) {
            fault = 3;
        }
        return fault == 0 ? at(sheets[k], i) : LOST;
    }

    int copy(int k, int i, int other, int j, int n) {
        fault = 0;
        if (!in(k, 0, 3) || !in(other, 0, 3)) {
            return UNKNOWN;
        }
        if (sheets[k] == null || sheets[other] == null) {
            return fails(1);
        }
        if (lane(sheets[k]) != lane(sheets[other])) {
            return fails(2);
        }
        if (!within(sheets[k], i, n) || !within(sheets[other], j, n)) {
            return fails(3);
        }
        int[] were = new int[n];
        for (int c = 0; c < n; c++) {
            were[c] = at(sheets[k], i + c);
        }
        for (int c = 0; c < n; c++) {
            set(sheets[other], j + c, were[c]);
        }
        return n;
    }

    int tell(int k) {
        return footmanIs(k) ? footmen.get(k).tell(this) : UNKNOWN;
    }

    int ring(int k) {
        return footmanIs(k) ? footmen.get(k).ring(this, k) : UNKNOWN;
    }

    int as(int k, int kind) {
        fault = 0;
        if (!footmanIs(k)) {
            return UNKNOWN;
        }
        if (!in(kind, 0, 2)) {
            return OUTSIDE;
        }
        Class<?> wanted = kind == 0 ? Boy.class : kind == 1 ? Man.class : Pair.class;
        return wanted.isInstance(footmen.get(k)) ? 1 : fails(2);
    }

    int trace() {
        return trace;
    }

    int fault() {
        return fault;
    }

    int many(int what) {
        if (!in(what, 0, 4)) {
            return OUTSIDE;
        }
        return new int[] {footmen.size(), corners, day, arrivedOf(footmen), readings.size()}[what];
    }
}
