import java.util.function.IntToLongFunction;
import java.util.function.ToLongFunction;

/** "An object is used for at most 512 calls after it has been made": objects that are used up to their 512th call. */
public final class LastCallsTest {
    private static final int LAST = 512, MOST_DAYS = 99;
    private static final Due due = new Due("LastCallsTest");

    public static void main(String[] args) {
        due.each(
            LastCallsTest::daysToTheLast,
            LastCallsTest::allGoOnToTheLast,
            LastCallsTest::seasonBehindThem,
            LastCallsTest::streetLaidBehindThem,
            LastCallsTest::traceToTheLast,
            LastCallsTest::changesToTheLast,
            LastCallsTest::townsToTheLast,
            LastCallsTest::rowsToTheLast,
            LastCallsTest::refusedToTheLast,
            LastCallsTest::askedToTheLast);
        due.finish();
    }

    /** How many calls an object of Towns.of has behind it. */
    private static int made(String text) {
        return text.length() + 2;
    }

    /** Makes the calls from the first to the last with what answers each of them, all of which are due to answer alike. */
    private static void alike(String call, int first, int last, IntToLongFunction asked, long want) {
        for (int number = first; number <= last; number++) {
            due.is(call + ", call " + number, asked.applyAsLong(number), want);
        }
    }

    /** Makes two calls in turn. */
    private static void inTurn(String call, int first, IntToLongFunction asked, long want, IntToLongFunction other, long wantOther) {
        for (int number = first; number <= LAST; number++) {
            boolean turn = (number - first) % 2 == 0;
            due.is(call + ", call " + number, (turn ? asked : other).applyAsLong(number), turn ? want : wantOther);
        }
    }

    private static void daysToTheLast() {
        due.sentence("days: the 512th call goes on where the 511th stood");
        String text = "t20;m019";
        PromiseWalk x = Towns.of(text);
        int calls = LAST - 2 - made(text);
        alike("days", made(text) + 1, LAST - 2, call -> x.days(MOST_DAYS), 0);
        due.is("call 511: DAY", x.many(2), MOST_DAYS * calls);
        due.is("call 512: WALKED", x.ofFootman(0, 5), 10 * MOST_DAYS * calls);
    }

    private static PromiseWalk six(String text) {
        PromiseWalk x = Towns.of(text);
        x.give(1, 0, 1, 9);
        return x;
    }

    private static void allGoOnToTheLast() {
        due.sentence("days: all six go on, each DAY to the last");
        String text = "t20" + ";m019".repeat(5);
        PromiseWalk x = six(text);
        int first = made(text) + 2;
        alike("days", first, LAST - 6, call -> x.days(MOST_DAYS), 0);
        for (int k = 0; k < 6; k++) {
            due.is("WALKED by " + k, x.ofFootman(k, 5), 10 * MOST_DAYS * (LAST - 5 - first));
        }
    }

    private static void seasonBehindThem() {
        due.sentence("season: how much is WALKED behind as many DAYS as can be");
        String text = "t20" + ";m019".repeat(5);
        PromiseWalk x = six(text);
        int[] pairs = new int[40];
        for (int pair = 0; pair < 20; pair++) {
            pairs[2 * pair] = 9;
            pairs[2 * pair + 1] = 2;
        }
        Towns.row(x, 1, Towns.INTS, pairs);
        int first = made(text) + 2 + pairs.length + 1;
        alike("days", first, LAST - 4, call -> x.days(MOST_DAYS), 0);
        int walked = 10 * MOST_DAYS * (LAST - 3 - first);
        due.is("call 509: in it", x.season(1, Towns.INTS, 0, 20, 3), 6 * 1800);
        due.is("call 510: the first then", x.season(1, Towns.INTS, 0, 20, 10), walked + 1800);
        due.is("call 511: the last then", x.season(1, Towns.INTS, 0, 20, 15), walked + 1800);
        due.is("call 512: who ARRIVED", x.season(1, Towns.INTS, 0, 20, 0), 0);
    }

    private static void streetLaidBehindThem() {
        due.sentence("ARRIVED, KEPT: of who has WALKED as much as can be");
        String text = "t20;m019;b011";
        PromiseWalk x = Towns.of(text);
        alike("days", made(text) + 1, LAST - 5, call -> x.days(MOST_DAYS), 0);
        due.is("call 508: pave", x.pave(0, 1, 9), 0);
        due.is("call 509: who has ARRIVED", x.many(3), 2);
        due.is("call 510: kept", x.kept(0), 0);
        due.is("call 511: who ARRIVES", x.days(MOST_DAYS), 0);
        due.is("call 512: he went no more", x.ofFootman(1, 5), MOST_DAYS * (LAST - 5 - made(text)));
    }

    private static void traceToTheLast() {
        due.sentence("TRACE, an int that wraps, to the last call");
        String text = "t25;p019";
        PromiseWalk x = Towns.of(text);
        int trace = 0;
        for (int call = made(text) + 1; call < LAST; call++) {
            boolean told = call % 3 > 0;
            due.is("call " + call, told ? x.tell(0) : x.ring(0), told ? 118 : 60);
            trace = told ? (((trace * 31 + 3) * 31 + 2) * 31 + 1) * 31 + 1 : trace * 31 + 5;
        }
        due.is("call 512: trace()", x.trace(), trace);
    }

    private static void changesToTheLast() {
        due.sentence("what is changed and changed back, to the last call");
        String text = "t25;b011";
        PromiseWalk sitter = Towns.of(text);
        inTurn("sit, rise", made(text) + 1, call -> sitter.sit(0), 1, call -> sitter.rise(0), 0);
        PromiseWalk read = Towns.of(text);
        inTurn("reading, back", made(text) + 1, call -> read.reading(0, 0, 0), 0, call -> read.back(1), 0);
        PromiseWalk paved = Towns.of(text);
        for (int call = made(text) + 1; call <= LAST; call++) {
            int v = call % 10;
            due.is("pave, call " + call, paved.pave(0, 1, v), call == made(text) + 1 ? 5 : (v + 9) % 10);
        }
    }

    private static void townsToTheLast() {
        due.sentence("town: taken again and again, to the last call");
        String text = "t29;b012;m011";
        PromiseWalk x = Towns.of(text);
        for (int call = made(text) + 1; call + 3 <= LAST; call += 4) {
            due.is("call " + call + ": give", x.give(2, 1, 0, 3), 2);
            due.is("days", x.days(5), 3);
            due.is("reading", x.reading(1, 1, 2), 0);
            due.is("town", x.town(0, Towns.BYTES, 0, text.length()), 2);
        }
    }

    private static void rowsToTheLast() {
        due.sentence("sheet, put, copy, lose: to the last call");
        PromiseWalk x = new PromiseWalk();
        for (int call = 1; call + 7 <= LAST; call += 8) {
            int k = call / 8 % 4;
            int other = (k + 1) % 4;
            int lane = call / 8 % 3;
            due.is("call " + call + ": sheet", x.sheet(k, lane, 60), 1);
            due.is("put", x.put(k, 59, call % 100), 1);
            due.is("a new row of another", x.sheet(other, lane, 60), 1);
            due.is("copy", x.copy(k, 59, other, 0, 1), 1);
            due.is("cell", x.cell(other, 0, lane), call % 100);
            due.is("it is new", x.cell(other, 59, lane), 0);
            due.is("lose", x.lose(k), 1);
            due.is("lose again", x.lose(k), 0);
        }
    }

    private static void refusedToTheLast() {
        due.sentence("FULL, and what is refused, to the last call");
        String text = "t29" + ";b011".repeat(5);
        PromiseWalk x = six(text);
        alike("a seventh", made(text) + 2, LAST, call -> x.give(0, 0, 1, 1), -4);
        PromiseWalk read = Towns.of(text);
        for (int number = 0; number < 8; number++) {
            due.is("reading", read.reading(0, 0, 0), number);
        }
        alike("a ninth", made(text) + 9, LAST, call -> read.reading(0, 0, 0), -4);
        PromiseWalk bare = new PromiseWalk();
        alike("no such SHEET", 1, LAST, call -> bare.sheet(4, 0, 1), -1);
        PromiseWalk faulted = new PromiseWalk();
        inTurn("put into nothing, fault", 1, call -> faulted.put(0, 0, 1), -11, call -> faulted.fault(), 1);
    }

    private static void askedAgain(String call, ToLongFunction<PromiseWalk> asked) {
        String text = "t4250304;b023;m301;p224;b131";
        PromiseWalk x = Towns.of(text);
        x.days(1);
        long first = asked.applyAsLong(x);
        alike(call, made(text) + 3, LAST, number -> asked.applyAsLong(x), first);
    }

    private static void askedToTheLast() {
        due.sentence("what is asked again is answered alike, to the last call");
        askedAgain("ofFootman", x -> x.ofFootman(0, 5));
        askedAgain("street", x -> x.street(0, 2));
        askedAgain("far", x -> x.far(0, 3));
        askedAgain("season", x -> x.season(0, Towns.BYTES, 28, 0, 0));
        askedAgain("way", x -> x.way(0, 3, -1));
        askedAgain("round", x -> x.round(0, 1));
        askedAgain("kept", x -> x.kept(0));
        askedAgain("middle", x -> x.middle(1));
        askedAgain("tree", x -> x.tree(1));
        askedAgain("errands", x -> x.errands(0));
        askedAgain("calves", x -> x.calves(0));
        askedAgain("kinds", x -> x.kinds(0));
        askedAgain("odds", x -> x.odds(0, 2, 1));
        askedAgain("cell", x -> x.cell(0, 3, Towns.BYTES));
        askedAgain("as", x -> x.as(1, 2));
        askedAgain("many", x -> x.many(3));
    }
}
