import java.util.function.ToLongFunction;

/** "Terms", the paragraph on REFUSALS and FAULTS, sentence by sentence. */
public final class RefusalsEdgesTest {
    private static final int NULL = 1, CAST = 2, INDEX = 3, SIZE = 4;
    private static final Due due = new Due("RefusalsEdgesTest");

    public static void main(String[] args) {
        due.each(
            RefusalsEdgesTest::theFirstOfSeveralRefusals,
            RefusalsEdgesTest::theFirstOfSeveralFaults,
            RefusalsEdgesTest::eachRefusal,
            RefusalsEdgesTest::eachFault,
            RefusalsEdgesTest::refusalsChangeNothing,
            RefusalsEdgesTest::faultsChangeNothing,
            RefusalsEdgesTest::refusalsTakeTheFaultBack,
            RefusalsEdgesTest::faultsAreTold,
            RefusalsEdgesTest::callsThatNameNoFaultsLeaveIt,
            RefusalsEdgesTest::callsThatCameToNone,
            RefusalsEdgesTest::answersThatAreNoFaults,
            RefusalsEdgesTest::noFaultAheadOfAny,
            RefusalsEdgesTest::indexOfNoCells,
            RefusalsEdgesTest::lostWhereALongIsAnswered,
            RefusalsEdgesTest::nothingIsNoNone,
            RefusalsEdgesTest::setsAreBits,
            RefusalsEdgesTest::quotientsAreCut);
        due.finish();
    }

    private static void theFirstOfSeveralRefusals() {
        due.sentence("of several refusals the first in the order in which a call's line tells them");
        Refused.ofSeveralRefusals().forEach(one -> one.answers(due));
    }

    private static void theFirstOfSeveralFaults() {
        due.sentence("of a call the first fault that is come to, in the order told");
        Refused.ofSeveralFaults().forEach(one -> one.answers(due));
        Refused.ofSeveralFaults().forEach(one -> one.leavesTheFaultThatIsDue(due));
    }

    private static void eachRefusal() {
        due.sentence("UNKNOWN, OUTSIDE, STATE, FULL, at each end");
        Refused.eachRefusal().forEach(one -> one.answers(due));
    }

    private static void eachFault() {
        due.sentence("a fault answers -10 less it");
        Refused.eachFault().forEach(one -> one.answers(due));
    }

    private static void refusalsChangeNothing() {
        due.sentence("refusals change nothing");
        Refused.eachRefusal().forEach(one -> one.changesNothing(due));
        Refused.ofSeveralRefusals().forEach(one -> one.changesNothing(due));
    }

    private static void faultsChangeNothing() {
        due.sentence("faults change nothing");
        Refused.eachFault().forEach(one -> one.changesNothing(due));
        Refused.ofSeveralFaults().forEach(one -> one.changesNothing(due));
    }

    private static void refusalsTakeTheFaultBack() {
        due.sentence("but fault(), of a call that names FAULTS: 0, if it was refused");
        Refused.all().stream().filter(one -> one.fault() == 0).forEach(one -> one.leavesTheFaultThatIsDue(due));
    }

    private static void faultsAreTold() {
        due.sentence("fault() tells it");
        Refused.all().stream().filter(one -> one.fault() > 0).forEach(one -> one.leavesTheFaultThatIsDue(due));
    }

    private static void leavesIt(String call, ToLongFunction<PromiseWalk> asked) {
        for (int fault : new int[] {0, NULL, CAST, INDEX, SIZE}) {
            PromiseWalk x = Towns.busy();
            bring(x, fault);
            asked.applyAsLong(x);
            due.is(call + ": fault()", x.fault(), fault);
        }
    }

    private static void bring(PromiseWalk x, int fault) {
        switch (fault) {
            case NULL:
                x.put(3, 0, 0);
                break;
            case CAST:
                x.cell(0, 0, 1);
                break;
            case INDEX:
                x.put(0, -1, 0);
                break;
            case SIZE:
                x.sheet(0, 0, -1);
                break;
            default:
                x.put(0, 0, 't');
        }
    }

    private static void callsThatNameNoFaultsLeaveIt() {
        due.sentence("the latest call that names one: others leave fault() as it was");
        Refused.all().stream().filter(one -> one.fault() == Case.NAMES_NONE).forEach(one -> one.leavesTheFaultThatIsDue(due));
        leavesIt("ofFootman", x -> x.ofFootman(0, 7));
        leavesIt("street", x -> x.street(0, 1));
        leavesIt("pave", x -> x.pave(0, 1, 0));
        leavesIt("far", x -> x.far(0, 3));
        leavesIt("days", x -> x.days(2));
        leavesIt("sit", x -> x.sit(0));
        leavesIt("rise", x -> x.rise(1));
        leavesIt("give", x -> x.give(0, 1, 2, 3));
        leavesIt("way", x -> x.way(0, 3, -1));
        leavesIt("round", x -> x.round(0, 1));
        leavesIt("kept", x -> x.kept(3));
        leavesIt("middle", x -> x.middle(0));
        leavesIt("tree", x -> x.tree(1));
        leavesIt("errands", x -> x.errands(0));
        leavesIt("reading", x -> x.reading(0, 0, 0));
        leavesIt("back", x -> x.back(1));
        leavesIt("calves", x -> x.calves(0));
        leavesIt("kinds", x -> x.kinds(0));
        leavesIt("odds", x -> x.odds(0, 1, 0));
        leavesIt("lose", x -> x.lose(0));
        leavesIt("lose nothing", x -> x.lose(3));
        leavesIt("tell", x -> x.tell(2));
        leavesIt("ring", x -> x.ring(0));
        leavesIt("trace", x -> x.trace());
        leavesIt("fault", x -> x.fault());
        leavesIt("many", x -> x.many(3));
    }

    private static void cameToNone(String call, long want, ToLongFunction<PromiseWalk> asked) {
        for (int fault : new int[] {0, NULL, CAST, INDEX, SIZE}) {
            PromiseWalk x = Towns.busy();
            bring(x, fault);
            due.is(call, asked.applyAsLong(x), want);
            due.is(call + ": fault()", x.fault(), 0);
        }
    }

    private static void callsThatCameToNone() {
        due.sentence("fault() is 0 behind a call that came to none");
        cameToNone("town", 4, x -> x.town(0, 0, 0, 28));
        cameToNone("season", 3, x -> x.season(1, 2, 0, 1, 0));
        cameToNone("sheet", 1, x -> x.sheet(0, 0, 1));
        cameToNone("put", 1, x -> x.put(1, 0, 1));
        cameToNone("cell", 70001, x -> x.cell(1, 4, 2));
        cameToNone("copy", 1, x -> x.copy(1, 0, 1, 1, 1));
        cameToNone("copy of none", 0, x -> x.copy(2, 0, 2, 0, 0));
        cameToNone("as", 1, x -> x.as(0, 0));
    }

    private static void answersThatAreNoFaults() {
        due.sentence("-100 less a FIRST FAULT or a FIRST WRONG is no fault of the machine's");
        cameToNone("town of a text that ends too soon", -127, x -> x.town(0, 0, 0, 27));
        cameToNone("town of no cells", -100, x -> x.town(2, 1, 0, 0));
        cameToNone("season with a FIRST WRONG", -100, x -> {
            x.copy(1, 0, 1, 0, 1);
            x.put(1, 1, 1);
            return x.season(1, 2, 0, 1, 0);
        });
    }

    private static void noFaultAheadOfAny() {
        due.sentence("fault() is 0 ahead of any");
        due.is("new: fault()", new PromiseWalk().fault(), 0);
        PromiseWalk x = new PromiseWalk();
        x.days(1);
        x.lose(0);
        x.many(9);
        due.is("behind calls that name none: fault()", x.fault(), 0);
    }

    private static void ofNoCells(String call, ToLongFunction<PromiseWalk> asked, long want) {
        PromiseWalk x = Towns.busy();
        due.is(call, asked.applyAsLong(x), want);
        due.is(call + ": fault()", x.fault(), want == -13 ? INDEX : 0);
    }

    private static void indexOfNoCells() {
        due.sentence("INDEX also where i is not 0 .. how many there are, if none of them is taken, too");
        for (int i : new int[] {-1, 29, Integer.MIN_VALUE, Integer.MAX_VALUE}) {
            ofNoCells("town of no cells from " + i, x -> x.town(0, 0, i, 0), -13);
            ofNoCells("season of no pairs from " + i, x -> x.season(0, 0, i, 0, 2), -13);
            ofNoCells("copy of no cells from " + i, x -> x.copy(0, i, 0, 0, 0), -13);
            ofNoCells("copy of no cells to " + i, x -> x.copy(0, 0, 0, i, 0), -13);
        }
        for (int i : new int[] {0, 1, 28}) {
            ofNoCells("town of no cells from " + i, x -> x.town(0, 0, i, 0), -100);
            ofNoCells("season of no pairs from " + i, x -> x.season(0, 0, i, 0, 2), 6);
            ofNoCells("copy of no cells from " + i, x -> x.copy(0, i, 0, 0, 0), 0);
            ofNoCells("copy of no cells to " + i, x -> x.copy(0, 0, 0, i, 0), 0);
        }
        ofNoCells("a row of none: town", x -> x.town(2, 1, 0, 0), -100);
        ofNoCells("a row of none: town from 1", x -> x.town(2, 1, 1, 0), -13);
        ofNoCells("a row of none: season", x -> x.season(2, 1, 0, 0, 2), 6);
        ofNoCells("a row of none: season from 1", x -> x.season(2, 1, 1, 0, 2), -13);
        ofNoCells("a row of none: copy", x -> x.copy(2, 0, 2, 0, 0), 0);
        ofNoCells("a row of none: copy from 1", x -> x.copy(2, 1, 2, 0, 0), -13);
        ofNoCells("a row of none: copy to 1", x -> x.copy(2, 0, 2, 1, 0), -13);
    }

    private static void lostWhereALongIsAnswered() {
        due.sentence("LOST, where a long is answered, as for refusals");
        long lost = Long.MIN_VALUE;
        PromiseWalk x = Towns.busy();
        due.is("LOST", PromiseWalk.LOST, lost);
        due.is("cell: UNKNOWN", x.cell(4, 0, 0), lost);
        due.is("cell: OUTSIDE", x.cell(0, 0, 3), lost);
        due.is("cell: CAST", x.cell(0, 0, 2), lost);
        due.is("cell: NULL", x.cell(3, 0, 0), lost);
        due.is("cell: INDEX", x.cell(0, 28, 0), lost);
        due.is("odds: UNKNOWN", x.odds(5, 0, 0), lost);
        due.is("odds: OUTSIDE, days", x.odds(0, 100, 0), lost);
        due.is("odds: OUTSIDE, which", x.odds(0, 0, 2), lost);
        x.sheet(3, Towns.INTS, 1);
        x.put(3, 0, Integer.MIN_VALUE);
        due.is("the least number in a cell is not LOST", x.cell(3, 0, 2), Integer.MIN_VALUE);
    }

    private static void nothingIsNoNone() {
        due.sentence("NONE is -9");
        PromiseWalk x = Towns.of(Towns.TORN);
        due.is("NONE", PromiseWalk.NONE, -9);
        due.is("far", x.far(0, 5), -9);
        due.is("way", x.way(0, 5, -1), -9);
        due.is("round", x.round(0, 5), -9);
        due.is("kept", x.kept(1), -9);
        due.is("middle", x.middle(0), -9);
        due.is("tree", x.tree(0), -9);
        due.is("errands", x.errands(-1), -9);
        due.is("season: no FIRST WRONG", x.season(0, 0, 0, 0, 1), -9);
    }

    private static void setsAreBits() {
        due.sentence("sets are told as bits: bit k for number k");
        PromiseWalk x = Towns.of("t3111;b011;b125;m203;p018");
        x.sit(3);
        x.sit(0);
        due.is("who SITS: 0 and 3", x.season(0, 0, 0, 0, 2), 1 + 8);
        due.is("STREETS 0 and 1", x.tree(1), 1 + 2);
        x.reading(1, 1, 5);
        due.is("CALVES 5", x.calves(1), 32);
        due.is("kind 0", x.kinds(1), 1);
    }

    private static void quotientsAreCut() {
        due.sentence("quotients are cut");
        int[] paces = {0, 1, 1, 2, 2, 3, 3, 4, 4, 5};
        for (int calves = 1; calves <= 9; calves++) {
            PromiseWalk x = Towns.of("t29;p01" + calves);
            due.is("PACE of a PAIR with CALVES " + calves, x.ofFootman(0, 4), paces[calves]);
            x.days(1);
            due.is("it has WALKED", x.ofFootman(0, 5), paces[calves]);
            x.reading(0, 1, paces[calves]);
            due.holds("CALVES by a READING of it", (x.calves(0) >> calves & 1) == 1);
            due.holds("its kind by a READING of it", (x.kinds(0) >> 2 & 1) == 1);
        }
    }
}
