/** Runs of calls drawn by a fixed row of numbers: the program and the plain second one answer alike, and nothing is thrown. */
public final class AgainstPlainTest {
    private static final int RUNS = 1500, CALLS = 380;
    private static final int[] ODD_ONES = {-1, -2, Integer.MIN_VALUE, Integer.MAX_VALUE, 100, 61, 1000, 7, 9, 16};
    private static final Due due = new Due("AgainstPlainTest");

    private long drawn;
    private final int run;
    private final PromiseWalk x = new PromiseWalk();
    private final Plain plain = new Plain();
    private int calls = 0;

    private AgainstPlainTest(int run) {
        this.run = run;
        drawn = run * 7919L + 17;
    }

    public static void main(String[] args) {
        for (int run = 0; run < RUNS && due.allRight(); run++) {
            new AgainstPlainTest(run).go();
        }
        due.finish();
    }

    private int draw(int bound) {
        drawn = drawn * 6364136223846793005L + 1442695040888963407L;
        return (int) ((drawn >>> 33) % bound);
    }

    /** Mostly one of least .. most, sometimes one beside them, seldom a strange one. */
    private int some(int least, int most) {
        int kind = draw(40);
        if (kind == 0) {
            return ODD_ONES[draw(ODD_ONES.length)];
        }
        if (kind == 1) {
            return draw(2) == 0 ? least - 1 : most + 1;
        }
        return least + draw(most - least + 1);
    }

    private void same(String call, long got, long want) {
        calls++;
        due.is("run " + run + ", call " + calls + ", " + call, got, want);
    }

    private void go() {
        while (calls < CALLS && due.allRight()) {
            switch (draw(12)) {
                case 0:
                    town();
                    break;
                case 1:
                    season();
                    break;
                case 2:
                case 3:
                    sheets();
                    break;
                case 4:
                    readings();
                    break;
                case 5:
                case 6:
                    ways();
                    break;
                case 7:
                    parts();
                    break;
                default:
                    walks();
            }
        }
        for (int k = 0; k < 6; k++) {
            footman(k);
        }
    }

    private void footman(int k) {
        for (int what = 0; what <= 7; what++) {
            same("ofFootman(" + k + ", " + what + ")", x.ofFootman(k, what), plain.ofFootman(k, what));
        }
    }

    private void put(int k, int i, int v) {
        same("put(" + k + ", " + i + ", " + v + ")", x.put(k, i, v), plain.put(k, i, v));
    }

    private String text() {
        StringBuilder text = new StringBuilder("t");
        int corners = 2 + draw(5);
        int none = draw(4);
        int longest = 1 + draw(9);
        text.append(corners);
        for (int number = 0; number < corners * (corners - 1) / 2; number++) {
            text.append(draw(4) < none ? 0 : 1 + draw(longest));
        }
        for (int footman = 1 + draw(5); footman > 0; footman--) {
            text.append(';').append("bmp".charAt(draw(3))).append(draw(corners)).append(draw(corners)).append(1 + draw(9));
        }
        if (draw(4) == 0) {
            text.setLength(draw(text.length() + 1));
        }
        if (draw(4) == 0 && text.length() > 0) {
            text.setCharAt(draw(text.length()), "t0123456789;bmpx/:".charAt(draw(18)));
        }
        if (draw(12) == 0) {
            text.append(";b011");
        }
        return text.toString();
    }

    private void town() {
        String text = text();
        int sheet = some(0, 3);
        int lane = some(0, 2);
        int ahead = draw(3);
        int size = ahead + text.length() + draw(3);
        same("sheet(" + sheet + ", " + lane + ", " + size + ")", x.sheet(sheet, lane, size), plain.sheet(sheet, lane, size));
        for (int i = 0; i < text.length(); i++) {
            put(sheet, ahead + i, text.charAt(i));
        }
        int i = draw(20) == 0 ? some(0, size) : ahead;
        int n = draw(20) == 0 ? some(0, size) : text.length();
        int of = draw(20) == 0 ? some(0, 2) : lane;
        String call = "town(" + sheet + ", " + of + ", " + i + ", " + n + ") of " + text;
        same(call, x.town(sheet, of, i, n), plain.town(sheet, of, i, n));
        same("fault()", x.fault(), plain.fault());
    }

    private void season() {
        int sheet = some(0, 3);
        int lane = some(0, 2);
        int ahead = draw(2);
        int pairs = draw(6) == 0 ? draw(22) : draw(6);
        int size = ahead + 2 * pairs + draw(2);
        same("sheet(" + sheet + ", " + lane + ", " + size + ")", x.sheet(sheet, lane, size), plain.sheet(sheet, lane, size));
        for (int pair = 0; pair < pairs; pair++) {
            int act = draw(60) == 0 ? some(0, 2) : draw(3);
            int first = act == 2 ? some(0, 9) : draw(60) == 0 ? some(0, 5) : draw(1 + Math.max(0, plain.many(0)));
            put(sheet, ahead + 2 * pair, first);
            put(sheet, ahead + 2 * pair + 1, act);
        }
        for (int what = 0; what <= 16; what++) {
            int i = draw(30) == 0 ? some(0, size) : ahead;
            int n = draw(30) == 0 ? some(0, 20) : pairs;
            int of = draw(30) == 0 ? some(0, 2) : lane;
            String call = "season(" + sheet + ", " + of + ", " + i + ", " + n + ", " + what + ")";
            same(call, x.season(sheet, of, i, n, what), plain.season(sheet, of, i, n, what));
            same("fault()", x.fault(), plain.fault());
        }
    }

    private void sheets() {
        int k = some(0, 3);
        int other = some(0, 3);
        int i = some(0, 9);
        int j = some(0, 9);
        int n = some(0, 9);
        int lane = some(0, 2);
        int v = draw(3) == 0 ? draw(1 << 20) - (1 << 19) : some(-200, 200);
        switch (draw(7)) {
            case 0:
                same("sheet(" + k + ", " + lane + ", " + n + ")", x.sheet(k, lane, n), plain.sheet(k, lane, n));
                break;
            case 1:
                if (draw(3) == 0) {
                    same("lose(" + k + ")", x.lose(k), plain.lose(k));
                }
                break;
            case 2:
                put(k, i, v);
                break;
            case 3:
            case 4:
                same("cell(" + k + ", " + i + ", " + lane + ")", x.cell(k, i, lane), plain.cell(k, i, lane));
                break;
            default:
                String call = "copy(" + k + ", " + i + ", " + other + ", " + j + ", " + n + ")";
                same(call, x.copy(k, i, other, j, n), plain.copy(k, i, other, j, n));
        }
        same("fault()", x.fault(), plain.fault());
    }

    private void readings() {
        int k = some(0, Math.max(0, plain.many(0) - 1));
        int days = some(0, draw(3) == 0 ? 99 : 9);
        int v = draw(4) > 0 && plain.ofFootman(k, 4) > 0 ? plain.ofFootman(k, 4) * days : some(0, 999);
        int taken = some(0, 3);
        switch (draw(3)) {
            case 0:
                same("reading(" + k + ", " + days + ", " + v + ")", x.reading(k, days, v), plain.reading(k, days, v));
                break;
            case 1:
                same("back(" + taken + ")", x.back(taken), plain.back(taken));
                break;
            default:
                same("calves(" + k + ")", x.calves(k), plain.calves(k));
                same("kinds(" + k + ")", x.kinds(k), plain.kinds(k));
        }
    }

    private void ways() {
        int corners = Math.max(1, plain.many(1));
        int a = some(0, corners - 1);
        int b = some(0, corners - 1);
        int k = some(0, Math.max(0, plain.many(0) - 1));
        int place = some(-1, 5);
        int what = some(0, 1);
        int n = some(0, 20);
        switch (draw(5)) {
            case 0:
                same("way(" + a + ", " + b + ", " + place + ")", x.way(a, b, place), plain.way(a, b, place));
                same("far(" + a + ", " + b + ")", x.far(a, b), plain.far(a, b));
                break;
            case 1:
                same("round(" + k + ", " + a + ")", x.round(k, a), plain.round(k, a));
                same("kept(" + k + ")", x.kept(k), plain.kept(k));
                break;
            case 2:
                same("middle(" + what + ")", x.middle(what), plain.middle(what));
                if (draw(4) == 0) {
                    same("tree(" + what + ")", x.tree(what), plain.tree(what));
                }
                break;
            case 3:
                same("errands(" + place + ")", x.errands(place), plain.errands(place));
                break;
            default:
                same("odds(" + k + ", " + n + ", " + what + ")", x.odds(k, n, what), plain.odds(k, n, what));
        }
    }

    private void parts() {
        int k = some(0, 5);
        int kind = some(0, 2);
        switch (draw(3)) {
            case 0:
                same("tell(" + k + ")", x.tell(k), plain.tell(k));
                break;
            case 1:
                same("ring(" + k + ")", x.ring(k), plain.ring(k));
                break;
            default:
                same("as(" + k + ", " + kind + ")", x.as(k, kind), plain.as(k, kind));
                same("fault()", x.fault(), plain.fault());
        }
        same("trace()", x.trace(), plain.trace());
    }

    private void walks() {
        int k = some(0, Math.max(0, plain.many(0) - 1));
        int corners = Math.max(1, plain.many(1));
        int a = some(0, corners - 1);
        int b = some(0, corners - 1);
        int n = draw(10) == 0 ? some(1, 99) : some(1, 3);
        int v = some(0, 9);
        int kind = some(0, 2);
        int what = some(0, 4);
        switch (draw(8)) {
            case 0:
                same("days(" + n + ")", x.days(n), plain.days(n));
                break;
            case 1:
                same("sit(" + k + ")", x.sit(k), plain.sit(k));
                break;
            case 2:
                same("rise(" + k + ")", x.rise(k), plain.rise(k));
                break;
            case 3:
                String call = "give(" + kind + ", " + a + ", " + b + ", " + v + ")";
                same(call, x.give(kind, a, b, v), plain.give(kind, a, b, v));
                break;
            case 4:
                same("pave(" + a + ", " + b + ", " + v + ")", x.pave(a, b, v), plain.pave(a, b, v));
                break;
            case 5:
                same("street(" + a + ", " + b + ")", x.street(a, b), plain.street(a, b));
                break;
            case 6:
                same("many(" + what + ")", x.many(what), plain.many(what));
                break;
            default:
                int of = some(0, 7);
                same("ofFootman(" + k + ", " + of + ")", x.ofFootman(k, of), plain.ofFootman(k, of));
        }
    }
}
