/** All that can be asked of an object, told as a text: so it shows whether a call has changed anything. */
final class Seen {
    private final PromiseWalk x;
    private final int footmen;
    private final int corners;
    private final StringBuilder text = new StringBuilder();

    private Seen(PromiseWalk x) {
        this.x = x;
        footmen = x.many(0);
        corners = x.many(1);
    }

    /** All but fault(). The object is used up by it: the READINGS are taken back one by one, to tell each of them. */
    static String all(PromiseWalk x) {
        return sheets(x) + " trace " + x.trace() + town(x);
    }

    static String town(PromiseWalk x) {
        Seen seen = new Seen(x);
        seen.counts();
        seen.footmen();
        seen.streets();
        seen.readings();
        return seen.text.toString();
    }

    static String sheets(PromiseWalk x) {
        Seen seen = new Seen(x);
        for (int k = 0; k < 4; k++) {
            for (int lane = 0; lane <= 2; lane++) {
                seen.row(k, lane);
            }
        }
        return seen.text.toString();
    }

    private void add(String name, long answer) {
        text.append(' ').append(name).append(' ').append(answer);
    }

    private void counts() {
        for (int what = 0; what <= 4; what++) {
            add("many", x.many(what));
        }
    }

    private void footmen() {
        for (int k = 0; k < footmen; k++) {
            for (int what = 0; what <= 7; what++) {
                add("ofFootman", x.ofFootman(k, what));
            }
        }
    }

    private void streets() {
        for (int a = 0; a < corners; a++) {
            for (int b = 0; b < corners; b++) {
                add("street", x.street(a, b));
                add("far", x.far(a, b));
            }
        }
    }

    private void readings() {
        for (int left = x.many(4); left >= 0; left--) {
            for (int k = 0; k < footmen; k++) {
                add("calves", x.calves(k));
                add("kinds", x.kinds(k));
            }
            x.back(1);
        }
    }

    private void row(int k, int lane) {
        add("sheet", k);
        add("lane", lane);
        for (int i = 0; i <= 60; i++) {
            long cell = x.cell(k, i, lane);
            int fault = x.fault();
            add(fault == 0 ? "cell" : "fault", fault == 0 ? cell : fault);
            if (fault != 0) {
                return;
            }
        }
    }
}
