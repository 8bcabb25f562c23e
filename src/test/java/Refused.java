import java.util.ArrayList;
import java.util.List;
import java.util.function.Supplier;
import java.util.function.ToLongFunction;

/** The calls that are refused or faulted: each end that a promise names, and where two of them meet, which one is first. */
final class Refused {
    private static final int UNKNOWN = -1, OUTSIDE = -2, STATE = -3, FULL = -4;
    private static final int NULL = 1, CAST = 2, INDEX = 3, SIZE = 4;
    private static final int MIN = Integer.MIN_VALUE, MAX = Integer.MAX_VALUE;
    private static final int[] NO_FOOTMAN = {-1, 5, 6, MIN, MAX};
    private static final int[] NO_CORNER = {-1, 4, MIN, MAX};
    private static final int[] NO_SHEET = {-1, 4, MIN, MAX};
    private static final int[] NO_LANE = {-1, 3, MIN, MAX};

    private static final Supplier<PromiseWalk> NEW = PromiseWalk::new, BARE = Towns::bare, BUSY = Towns::busy, FILLED = Towns::full;

    private final List<Case> cases = new ArrayList<>();

    private Refused() {
    }

    /** Where two refusals meet in a call, or a refusal and a fault: the one that the call's line tells first. */
    static List<Case> ofSeveralRefusals() {
        Refused r = new Refused();
        r.meetInTown();
        r.meetInWalks();
        r.meetInSeason();
        r.meetInWays();
        r.meetInReadings();
        r.meetInSheets();
        return r.cases;
    }

    /** Where two FAULTS meet in a call, or a FAULT and what comes behind it. */
    static List<Case> ofSeveralFaults() {
        Refused r = new Refused();
        r.faultsMeetInRows();
        r.faultsMeetInCopy();
        return r.cases;
    }

    static List<Case> eachRefusal() {
        Refused r = new Refused();
        r.noSuchFootman();
        r.noSuchCorner();
        r.noSuchSheetOrLane();
        r.outsideOfWalks();
        r.outsideOfSeason();
        r.outsideOfWays();
        r.outsideOfReadings();
        r.outsideOfSheets();
        r.states();
        return r.cases;
    }

    static List<Case> eachFault() {
        Refused r = new Refused();
        r.faultsOfRows();
        r.faultsOfCells();
        r.faultsOfCopy();
        r.faultsOfKinds();
        return r.cases;
    }

    static List<Case> all() {
        List<Case> all = new ArrayList<>(eachRefusal());
        all.addAll(eachFault());
        all.addAll(ofSeveralRefusals());
        all.addAll(ofSeveralFaults());
        return all;
    }

    private void quiet(String words, Supplier<PromiseWalk> from, ToLongFunction<PromiseWalk> call, long want) {
        cases.add(Case.of(words, from, call, want));
    }

    private void refused(String words, Supplier<PromiseWalk> from, ToLongFunction<PromiseWalk> call, long want) {
        cases.add(Case.refused(words, from, call, want));
    }

    private void faulted(String words, Supplier<PromiseWalk> from, ToLongFunction<PromiseWalk> call, int fault) {
        cases.add(Case.faulted(words, from, call, fault));
    }

    private void lost(String words, ToLongFunction<PromiseWalk> call, int fault) {
        cases.add(new Case(words, BUSY, call, Long.MIN_VALUE, fault));
    }

    // ---- two refusals at once

    private void meetInTown() {
        refused("town: UNKNOWN, OUTSIDE", BUSY, x -> x.town(4, 3, 0, 28), UNKNOWN);
        refused("town: UNKNOWN, SIZE", BUSY, x -> x.town(-1, 0, 0, -1), UNKNOWN);
        refused("town: OUTSIDE, NULL", BUSY, x -> x.town(3, 3, 0, 0), OUTSIDE);
        refused("town: OUTSIDE, SIZE", BUSY, x -> x.town(0, -1, 0, -1), OUTSIDE);
        refused("town: OUTSIDE, INDEX", BUSY, x -> x.town(0, 3, -1, 1), OUTSIDE);
        quiet("ofFootman: UNKNOWN, OUTSIDE", BUSY, x -> x.ofFootman(5, 8), UNKNOWN);
        quiet("pave: UNKNOWN, OUTSIDE", BUSY, x -> x.pave(4, 0, 10), UNKNOWN);
        quiet("pave: UNKNOWN (the second), OUTSIDE", BUSY, x -> x.pave(0, 4, -1), UNKNOWN);
        quiet("pave: UNKNOWN (both the same), OUTSIDE", BUSY, x -> x.pave(2, 2, 10), UNKNOWN);
    }

    private void meetInWalks() {
        quiet("days: OUTSIDE, STATE", BARE, x -> x.days(0), OUTSIDE);
        quiet("days: OUTSIDE (above), STATE", BARE, x -> x.days(100), OUTSIDE);
        quiet("give: OUTSIDE (kind), UNKNOWN", BUSY, x -> x.give(3, 4, 0, 1), OUTSIDE);
        quiet("give: OUTSIDE (calves), UNKNOWN", BUSY, x -> x.give(0, 0, 4, 0), OUTSIDE);
        quiet("give: OUTSIDE (kind), FULL", FILLED, x -> x.give(-1, 0, 1, 1), OUTSIDE);
        quiet("give: OUTSIDE (calves), FULL", FILLED, x -> x.give(0, 0, 1, 10), OUTSIDE);
        quiet("give: UNKNOWN (from), FULL", FILLED, x -> x.give(0, 4, 1, 1), UNKNOWN);
        quiet("give: UNKNOWN (to), FULL", FILLED, x -> x.give(0, 1, -1, 1), UNKNOWN);
        quiet("give: OUTSIDE, no TOWN", BARE, x -> x.give(0, 0, 0, 10), OUTSIDE);
    }

    private void meetInSeason() {
        refused("season: UNKNOWN, OUTSIDE (lane)", BUSY, x -> x.season(4, 3, 0, 0, 0), UNKNOWN);
        refused("season: UNKNOWN, OUTSIDE (n)", BUSY, x -> x.season(4, 0, 0, 21, 0), UNKNOWN);
        refused("season: UNKNOWN, OUTSIDE (what)", BUSY, x -> x.season(4, 0, 0, 0, 5), UNKNOWN);
        refused("season: UNKNOWN, STATE", BARE, x -> x.season(4, 0, 0, 0, 0), UNKNOWN);
        refused("season: OUTSIDE (lane), STATE", BARE, x -> x.season(1, 3, 0, 0, 0), OUTSIDE);
        refused("season: OUTSIDE (n), STATE", BARE, x -> x.season(1, 2, 0, 21, 0), OUTSIDE);
        refused("season: OUTSIDE (what), STATE", BARE, x -> x.season(1, 2, 0, 0, 5), OUTSIDE);
        refused("season: OUTSIDE (lane), NULL", BUSY, x -> x.season(3, -1, 0, 0, 0), OUTSIDE);
        refused("season: OUTSIDE (n), CAST", BUSY, x -> x.season(1, 0, 0, 21, 0), OUTSIDE);
        refused("season: OUTSIDE (n), INDEX", BUSY, x -> x.season(1, 2, -1, -1, 0), OUTSIDE);
        refused("season: OUTSIDE (what), NULL", BUSY, x -> x.season(3, 2, 0, 0, 16), OUTSIDE);
        refused("season: STATE, CAST", BARE, x -> x.season(1, 0, 0, 0, 0), STATE);
        refused("season: STATE, NULL", BARE, x -> x.season(3, 0, 0, 0, 0), STATE);
        refused("season: STATE, INDEX", BARE, x -> x.season(1, 2, -1, 1, 0), STATE);
        refused("season: STATE, a pair that is none", BARE, x -> x.season(1, 2, 2, 1, 0), STATE);
        ofPairs("season: UNKNOWN, OUTSIDE of the next pair", UNKNOWN, 5, 0, 0, 3);
        ofPairs("season: OUTSIDE, UNKNOWN of the next pair", OUTSIDE, 0, 3, 5, 0);
        ofPairs("season: OUTSIDE of a pair, its first is no FOOTMAN", OUTSIDE, 5, 3);
        ofPairs("season: UNKNOWN, behind an act that can't be", UNKNOWN, 0, 1, 5, 0);
        ofPairs("season: OUTSIDE, behind an act that can't be", OUTSIDE, 0, 1, 10, 2);
    }

    private void ofPairs(String words, int want, int... pairs) {
        Supplier<PromiseWalk> from = () -> {
            PromiseWalk x = Towns.busy();
            Towns.row(x, 1, Towns.INTS, pairs);
            return x;
        };
        for (int what : new int[] {0, 1, 2, 3, 4, 10, 15}) {
            refused(words + ", what " + what, from, x -> x.season(1, Towns.INTS, 0, pairs.length / 2, what), want);
        }
    }

    private void meetInWays() {
        quiet("way: UNKNOWN, OUTSIDE", BUSY, x -> x.way(4, 0, 6), UNKNOWN);
        quiet("way: UNKNOWN (the second), OUTSIDE", BUSY, x -> x.way(0, -1, -2), UNKNOWN);
        quiet("middle: STATE, OUTSIDE", BARE, x -> x.middle(2), STATE);
        quiet("tree: STATE, OUTSIDE", BARE, x -> x.tree(-1), STATE);
        quiet("errands: STATE, OUTSIDE", BARE, x -> x.errands(6), STATE);
    }

    private void meetInReadings() {
        quiet("reading: UNKNOWN, OUTSIDE (days)", BUSY, x -> x.reading(5, 100, 0), UNKNOWN);
        quiet("reading: UNKNOWN, OUTSIDE (v)", BUSY, x -> x.reading(5, 0, 1000), UNKNOWN);
        quiet("reading: UNKNOWN, FULL", FILLED, x -> x.reading(6, 0, 0), UNKNOWN);
        quiet("reading: OUTSIDE (days), FULL", FILLED, x -> x.reading(0, 100, 0), OUTSIDE);
        quiet("reading: OUTSIDE (v), FULL", FILLED, x -> x.reading(0, 0, -1), OUTSIDE);
    }

    private void meetInSheets() {
        refused("sheet: UNKNOWN, OUTSIDE (lane)", BUSY, x -> x.sheet(4, 3, 0), UNKNOWN);
        refused("sheet: UNKNOWN, OUTSIDE (n)", BUSY, x -> x.sheet(4, 0, 61), UNKNOWN);
        refused("sheet: UNKNOWN, SIZE", BUSY, x -> x.sheet(4, 0, -1), UNKNOWN);
        refused("sheet: OUTSIDE, SIZE", BUSY, x -> x.sheet(0, 3, -1), OUTSIDE);
        refused("put: UNKNOWN, INDEX", BUSY, x -> x.put(4, -1, 0), UNKNOWN);
        refused("copy: UNKNOWN (the first), NULL", BUSY, x -> x.copy(4, 0, 3, 0, 0), UNKNOWN);
        refused("copy: UNKNOWN (the other), NULL", BUSY, x -> x.copy(3, 0, 4, 0, 0), UNKNOWN);
        refused("copy: UNKNOWN, INDEX", BUSY, x -> x.copy(0, -1, -1, -1, -1), UNKNOWN);
        lost("cell: UNKNOWN, INDEX", x -> x.cell(4, -1, 0), 0);
        lost("cell: OUTSIDE, NULL", x -> x.cell(3, 0, 3), 0);
        lost("cell: OUTSIDE, INDEX", x -> x.cell(0, -1, -1), 0);
        refused("as: UNKNOWN, OUTSIDE", BUSY, x -> x.as(5, 3), UNKNOWN);
        refused("as: OUTSIDE, CAST", BUSY, x -> x.as(0, 3), OUTSIDE);
    }

    // ---- two FAULTS at once

    private void faultsMeetInRows() {
        faulted("town: CAST, SIZE", BUSY, x -> x.town(1, 0, 0, -1), CAST);
        faulted("town: CAST, INDEX", BUSY, x -> x.town(1, 1, 99, 1), CAST);
        faulted("town: SIZE, INDEX", BUSY, x -> x.town(0, 0, -1, -1), SIZE);
        faulted("town: INDEX, a FIRST FAULT", BUSY, x -> x.town(1, 2, 0, 6), INDEX);
        faulted("season: CAST, INDEX", BUSY, x -> x.season(1, 0, -1, 1, 0), CAST);
        faulted("season: CAST, a pair that is none", BUSY, x -> x.season(1, 0, 2, 1, 0), CAST);
        faulted("season: INDEX, a pair that is none", BUSY, x -> x.season(1, 2, 2, 2, 0), INDEX);
        faulted("put: NULL, INDEX", BUSY, x -> x.put(3, -1, 0), NULL);
        lost("cell: CAST, INDEX", x -> x.cell(1, -1, 0), CAST);
        for (int lane = 0; lane <= 2; lane++) {
            int of = lane;
            faulted("town: nothing is no CAST, SIZE, lane " + lane, BUSY, x -> x.town(3, of, 0, -1), NULL);
            faulted("town: nothing is no CAST, INDEX, lane " + lane, BUSY, x -> x.town(3, of, -1, 1), NULL);
            faulted("season: nothing is no CAST, INDEX, lane " + lane, BUSY, x -> x.season(3, of, -1, 1, 0), NULL);
            lost("cell: nothing is no CAST, INDEX, lane " + lane, x -> x.cell(3, -1, of), NULL);
        }
    }

    private void faultsMeetInCopy() {
        faulted("copy: NULL (the first), INDEX", BUSY, x -> x.copy(3, -1, 0, 0, 1), NULL);
        faulted("copy: NULL (the other), INDEX", BUSY, x -> x.copy(0, 0, 3, 0, -1), NULL);
        faulted("copy: NULL (both), INDEX", BUSY, x -> x.copy(3, 0, 3, 1, 1), NULL);
        faulted("copy: CAST, INDEX (i)", BUSY, x -> x.copy(0, -1, 1, 0, 1), CAST);
        faulted("copy: CAST, INDEX (j)", BUSY, x -> x.copy(1, 0, 0, 99, 1), CAST);
        faulted("copy: CAST, INDEX (n)", BUSY, x -> x.copy(0, 0, 2, 0, -1), CAST);
    }

    // ---- each refusal by itself

    private void noSuchFootman() {
        for (int k : NO_FOOTMAN) {
            quiet("ofFootman(" + k + ", 0)", BUSY, x -> x.ofFootman(k, 0), UNKNOWN);
            quiet("sit(" + k + ")", BUSY, x -> x.sit(k), UNKNOWN);
            quiet("rise(" + k + ")", BUSY, x -> x.rise(k), UNKNOWN);
            quiet("round(" + k + ", 0)", BUSY, x -> x.round(k, 0), UNKNOWN);
            quiet("kept(" + k + ")", BUSY, x -> x.kept(k), UNKNOWN);
            quiet("reading(" + k + ", 0, 0)", BUSY, x -> x.reading(k, 0, 0), UNKNOWN);
            quiet("calves(" + k + ")", BUSY, x -> x.calves(k), UNKNOWN);
            quiet("kinds(" + k + ")", BUSY, x -> x.kinds(k), UNKNOWN);
            quiet("odds(" + k + ", 0, 0)", BUSY, x -> x.odds(k, 0, 0), Long.MIN_VALUE);
            quiet("tell(" + k + ")", BUSY, x -> x.tell(k), UNKNOWN);
            quiet("ring(" + k + ")", BUSY, x -> x.ring(k), UNKNOWN);
            refused("as(" + k + ", 0)", BUSY, x -> x.as(k, 0), UNKNOWN);
        }
    }

    private void noSuchCorner() {
        for (int c : NO_CORNER) {
            quiet("street(" + c + ", 0)", BUSY, x -> x.street(c, 0), UNKNOWN);
            quiet("street(0, " + c + ")", BUSY, x -> x.street(0, c), UNKNOWN);
            quiet("pave(" + c + ", 0, 1)", BUSY, x -> x.pave(c, 0, 1), UNKNOWN);
            quiet("pave(0, " + c + ", 1)", BUSY, x -> x.pave(0, c, 1), UNKNOWN);
            quiet("far(" + c + ", 0)", BUSY, x -> x.far(c, 0), UNKNOWN);
            quiet("far(0, " + c + ")", BUSY, x -> x.far(0, c), UNKNOWN);
            quiet("far(" + c + ", itself)", BUSY, x -> x.far(c, c), UNKNOWN);
            quiet("give(0, " + c + ", 0, 1)", BUSY, x -> x.give(0, c, 0, 1), UNKNOWN);
            quiet("give(0, 0, " + c + ", 1)", BUSY, x -> x.give(0, 0, c, 1), UNKNOWN);
            quiet("way(" + c + ", 0, 0)", BUSY, x -> x.way(c, 0, 0), UNKNOWN);
            quiet("way(0, " + c + ", 0)", BUSY, x -> x.way(0, c, 0), UNKNOWN);
            quiet("way(" + c + ", itself, 0)", BUSY, x -> x.way(c, c, 0), UNKNOWN);
            quiet("round(0, " + c + ")", BUSY, x -> x.round(0, c), UNKNOWN);
        }
        for (int c = 0; c < 4; c++) {
            int same = c;
            quiet("street(" + c + ", itself)", BUSY, x -> x.street(same, same), UNKNOWN);
            quiet("pave(" + c + ", itself, 1)", BUSY, x -> x.pave(same, same, 1), UNKNOWN);
        }
    }

    private void noSuchSheetOrLane() {
        for (int k : NO_SHEET) {
            refused("town(" + k + ", 0, 0, 28)", BUSY, x -> x.town(k, 0, 0, 28), UNKNOWN);
            refused("season(" + k + ", 2, 0, 1, 0)", BUSY, x -> x.season(k, 2, 0, 1, 0), UNKNOWN);
            refused("sheet(" + k + ", 0, 1)", BUSY, x -> x.sheet(k, 0, 1), UNKNOWN);
            quiet("lose(" + k + ")", BUSY, x -> x.lose(k), UNKNOWN);
            refused("put(" + k + ", 0, 1)", BUSY, x -> x.put(k, 0, 1), UNKNOWN);
            lost("cell(" + k + ", 0, 0)", x -> x.cell(k, 0, 0), 0);
            refused("copy(" + k + ", 0, 0, 0, 1)", BUSY, x -> x.copy(k, 0, 0, 0, 1), UNKNOWN);
            refused("copy(0, 0, " + k + ", 0, 1)", BUSY, x -> x.copy(0, 0, k, 0, 1), UNKNOWN);
        }
        for (int lane : NO_LANE) {
            refused("town(0, " + lane + ", 0, 28)", BUSY, x -> x.town(0, lane, 0, 28), OUTSIDE);
            refused("season(1, " + lane + ", 0, 1, 0)", BUSY, x -> x.season(1, lane, 0, 1, 0), OUTSIDE);
            refused("sheet(0, " + lane + ", 1)", BUSY, x -> x.sheet(0, lane, 1), OUTSIDE);
            lost("cell(0, 0, " + lane + ")", x -> x.cell(0, 0, lane), 0);
        }
    }

    private void outsideOfWalks() {
        for (int out : new int[] {-1, 8, MIN, MAX}) {
            quiet("ofFootman(0, " + out + ")", BUSY, x -> x.ofFootman(0, out), OUTSIDE);
        }
        for (int out : new int[] {-1, 10, MIN, MAX}) {
            quiet("pave(0, 1, " + out + ")", BUSY, x -> x.pave(0, 1, out), OUTSIDE);
        }
        for (int out : new int[] {0, -1, 100, MIN, MAX}) {
            quiet("days(" + out + ")", BUSY, x -> x.days(out), OUTSIDE);
        }
        for (int out : new int[] {-1, 3, MIN, MAX}) {
            quiet("give(" + out + ", 0, 1, 1)", BUSY, x -> x.give(out, 0, 1, 1), OUTSIDE);
            refused("as(0, " + out + ")", BUSY, x -> x.as(0, out), OUTSIDE);
        }
        for (int out : new int[] {0, -1, 10, MIN, MAX}) {
            quiet("give(0, 0, 1, " + out + ")", BUSY, x -> x.give(0, 0, 1, out), OUTSIDE);
        }
    }

    private void outsideOfSeason() {
        for (int out : new int[] {-1, 21, MIN, MAX, 1 << 31, 1 << 30}) {
            refused("season(1, 2, 0, " + out + ", 0)", BUSY, x -> x.season(1, 2, 0, out, 0), OUTSIDE);
        }
        for (int out : new int[] {-1, 5, 6, 7, 8, 9, 16, MIN, MAX}) {
            refused("season(1, 2, 0, 1, " + out + ")", BUSY, x -> x.season(1, 2, 0, 1, out), OUTSIDE);
        }
        for (int act : new int[] {-1, 3, MIN, MAX}) {
            ofPairs("season of 0 and " + act, OUTSIDE, 0, act);
        }
        for (int first : new int[] {-1, 10, MIN, MAX}) {
            ofPairs("season of " + first + " and 2", OUTSIDE, first, 2);
        }
        for (int first : NO_FOOTMAN) {
            ofPairs("season of " + first + " and 0", UNKNOWN, first, 0);
            ofPairs("season of " + first + " and 1", UNKNOWN, first, 1);
        }
    }

    private void outsideOfWays() {
        for (int out : new int[] {-2, 6, MIN, MAX}) {
            quiet("way(0, 1, " + out + ")", BUSY, x -> x.way(0, 1, out), OUTSIDE);
            quiet("errands(" + out + ")", BUSY, x -> x.errands(out), OUTSIDE);
        }
        for (int out : new int[] {-1, 2, MIN, MAX}) {
            quiet("middle(" + out + ")", BUSY, x -> x.middle(out), OUTSIDE);
            quiet("tree(" + out + ")", BUSY, x -> x.tree(out), OUTSIDE);
        }
    }

    private void outsideOfReadings() {
        for (int out : new int[] {-1, 100, MIN, MAX}) {
            quiet("reading(0, " + out + ", 0)", BUSY, x -> x.reading(0, out, 0), OUTSIDE);
            quiet("odds(0, " + out + ", 0)", BUSY, x -> x.odds(0, out, 0), Long.MIN_VALUE);
        }
        for (int out : new int[] {-1, 1000, MIN, MAX}) {
            quiet("reading(0, 0, " + out + ")", BUSY, x -> x.reading(0, 0, out), OUTSIDE);
        }
        for (int out : new int[] {-1, 3, MIN, MAX}) {
            quiet("back(" + out + ")", BUSY, x -> x.back(out), OUTSIDE);
        }
        for (int out : new int[] {-1, 2, MIN, MAX}) {
            quiet("odds(0, 0, " + out + ")", BUSY, x -> x.odds(0, 0, out), Long.MIN_VALUE);
        }
    }

    private void outsideOfSheets() {
        for (int out : new int[] {61, 62, MAX}) {
            refused("sheet(0, 0, " + out + ")", BUSY, x -> x.sheet(0, 0, out), OUTSIDE);
        }
        for (int out : new int[] {-1, 5, MIN, MAX}) {
            quiet("many(" + out + ")", BUSY, x -> x.many(out), OUTSIDE);
        }
    }

    private void states() {
        quiet("days, no TOWN", BARE, x -> x.days(1), STATE);
        quiet("middle, no TOWN", BARE, x -> x.middle(0), STATE);
        quiet("tree, no TOWN", BARE, x -> x.tree(1), STATE);
        quiet("errands, no TOWN", BARE, x -> x.errands(-1), STATE);
        refused("season, no TOWN", BARE, x -> x.season(1, 2, 0, 1, 0), STATE);
        quiet("sit, who SITS", BUSY, x -> x.sit(1), STATE);
        quiet("rise, who does not SIT", BUSY, x -> x.rise(0), STATE);
        quiet("give, six", FILLED, x -> x.give(0, 0, 1, 1), FULL);
        quiet("reading, eight", FILLED, x -> x.reading(0, 0, 0), FULL);
        quiet("back, no READINGS", NEW, x -> x.back(1), OUTSIDE);
    }

    // ---- each FAULT by itself

    private void faultsOfRows() {
        faulted("town of nothing", BUSY, x -> x.town(3, 0, 0, 0), NULL);
        faulted("town of bytes as shorts", BUSY, x -> x.town(0, 1, 0, 28), CAST);
        faulted("town of bytes as ints", BUSY, x -> x.town(0, 2, 0, 28), CAST);
        faulted("town of -1 cells", BUSY, x -> x.town(0, 0, 0, -1), SIZE);
        faulted("town of the least number of cells", BUSY, x -> x.town(0, 0, 0, MIN), SIZE);
        faulted("season of nothing", BUSY, x -> x.season(3, 2, 0, 0, 0), NULL);
        faulted("season of ints as bytes", BUSY, x -> x.season(1, 0, 0, 1, 0), CAST);
        faulted("season of ints as shorts", BUSY, x -> x.season(1, 1, 0, 0, 0), CAST);
        for (int[] b : new int[][] {{0, 29}, {1, 28}, {28, 1}, {-1, 1}, {-1, 0}, {29, 0}, {MAX, 1}, {1, MAX}, {MIN, MAX}, {MAX, MAX}, {MIN, 0}}) {
            faulted("town of " + b[1] + " from " + b[0], BUSY, x -> x.town(0, 0, b[0], b[1]), INDEX);
        }
        for (int[] b : new int[][] {{0, 3}, {2, 2}, {4, 1}, {5, 1}, {-1, 1}, {-1, 0}, {6, 0}, {MAX, 20}, {MAX, 0}, {MIN, 20}, {MIN, 0}}) {
            faulted("season of " + b[1] + " pairs from " + b[0], BUSY, x -> x.season(1, 2, b[0], b[1], 0), INDEX);
        }
    }

    private void faultsOfCells() {
        faulted("sheet of -1", BUSY, x -> x.sheet(0, 0, -1), SIZE);
        faulted("sheet of the least number", BUSY, x -> x.sheet(3, 2, MIN), SIZE);
        faulted("put into nothing", BUSY, x -> x.put(3, 0, 1), NULL);
        lost("cell of nothing", x -> x.cell(3, 0, 0), NULL);
        lost("cell of bytes as a short", x -> x.cell(0, 0, 1), CAST);
        lost("cell of ints as a byte", x -> x.cell(1, 0, 0), CAST);
        for (int i : new int[] {-1, 5, 6, 60, MIN, MAX}) {
            faulted("put into cell " + i, BUSY, x -> x.put(1, i, 1), INDEX);
            lost("cell " + i, x -> x.cell(1, i, 2), INDEX);
        }
        faulted("put into a row of none", BUSY, x -> x.put(2, 0, 1), INDEX);
        lost("cell of a row of none", x -> x.cell(2, 0, 1), INDEX);
    }

    private void faultsOfCopy() {
        faulted("copy of nothing", BUSY, x -> x.copy(3, 0, 0, 0, 0), NULL);
        faulted("copy to nothing", BUSY, x -> x.copy(0, 0, 3, 0, 0), NULL);
        faulted("copy of bytes to ints", BUSY, x -> x.copy(0, 0, 1, 0, 1), CAST);
        faulted("copy of ints to shorts, none", BUSY, x -> x.copy(1, 0, 2, 0, 0), CAST);
        for (int[] b : new int[][] {{-1, 0, 1}, {0, -1, 1}, {0, 0, -1}, {0, 0, 6}, {1, 0, 5}, {0, 1, 5}, {5, 0, 1}, {0, 5, 1}, {-1, 0, 0},
            {0, -1, 0}, {6, 0, 0}, {0, 6, 0}, {MAX, 0, 1}, {0, MAX, 1}, {1, 1, MAX}, {MIN, 0, 1}, {0, MIN, 1}, {0, 0, MIN}, {MAX, 0, MAX}}) {
            String words = "copy of " + b[2] + " from " + b[0] + " to " + b[1];
            faulted(words, BUSY, x -> x.copy(1, b[0], 1, b[1], b[2]), INDEX);
        }
        Supplier<PromiseWalk> shorter = () -> {
            PromiseWalk x = Towns.busy();
            x.sheet(2, Towns.INTS, 4);
            return x;
        };
        faulted("copy of more than the other has", shorter, x -> x.copy(1, 0, 2, 0, 5), INDEX);
        faulted("copy of more than the first has", shorter, x -> x.copy(2, 0, 1, 0, 5), INDEX);
    }

    private void faultsOfKinds() {
        faulted("a BOY as a MAN", BUSY, x -> x.as(0, 1), CAST);
        faulted("a BOY as a PAIR", BUSY, x -> x.as(0, 2), CAST);
        faulted("a MAN as a PAIR", BUSY, x -> x.as(1, 2), CAST);
    }
}
