/** Promises 18 to 22: READINGS, CALVES, KINDS, ODDS. */
public final class ReadingsTest {
    private static final int ALL_CALVES = 1022, ALL_KINDS = 7;
    private static final Due due = new Due("ReadingsTest");

    public static void main(String[] args) {
        reading();
        back();
        calves();
        kinds();
        readingsOfOthers();
        odds();
        oddsRefusals();
        due.finish();
    }

    private static void reading() {
        PromiseWalk x = Towns.of(Towns.FOUR);
        due.is("reading(4, 100, 0)", x.reading(4, 100, 0), -1);
        due.is("reading(-1, 0, 0)", x.reading(-1, 0, 0), -1);
        due.is("reading(0, 100, 0)", x.reading(0, 100, 0), -2);
        due.is("reading(0, -1, 0)", x.reading(0, -1, 0), -2);
        due.is("reading(0, 0, 1000)", x.reading(0, 0, 1000), -2);
        due.is("reading(0, 0, -1)", x.reading(0, 0, -1), -2);
        due.is("none was taken", x.many(4), 0);
        due.is("reading(0, 99, 999)", x.reading(0, 99, 999), 0);
        for (int number = 1; number < 8; number++) {
            due.is("reading " + number, x.reading(number % 4, 0, 0), number);
        }
        due.is("UNKNOWN ahead of FULL", x.reading(4, 0, 0), -1);
        due.is("OUTSIDE ahead of FULL", x.reading(0, 100, 0), -2);
        due.is("FULL", x.reading(0, 0, 0), -4);
        due.is("many(4)", x.many(4), 8);
        due.is("without a town", new PromiseWalk().reading(0, 0, 0), -1);
    }

    private static void back() {
        PromiseWalk x = Towns.of(Towns.FOUR);
        due.is("back(0) of none", x.back(0), 0);
        due.is("back(1) of none", x.back(1), -2);
        x.reading(0, 1, 3);
        x.reading(0, 1, 4);
        x.reading(1, 1, 9);
        due.is("back(4)", x.back(4), -2);
        due.is("back(-1)", x.back(-1), -2);
        due.is("back(0)", x.back(0), 3);
        due.is("back(2), the last ones", x.back(2), 1);
        due.is("the first one stays", x.calves(0), 1 << 3);
        due.is("the next one has its number", x.reading(0, 0, 0), 1);
        due.is("back(2)", x.back(2), 0);
        due.is("none is left", x.calves(0), ALL_CALVES);
        due.is("without a town: back(0)", new PromiseWalk().back(0), 0);
        due.is("without a town: back(1)", new PromiseWalk().back(1), -2);
    }

    private static void calves() {
        PromiseWalk x = Towns.of(Towns.FOUR);
        due.is("no readings: calves(1)", x.calves(1), ALL_CALVES);
        x.reading(1, 3, 30);
        due.is("a man of nine: calves(1)", x.calves(1), 1 << 9);
        x.back(1);
        x.reading(1, 2, 2);
        due.is("a man of none: calves(1)", x.calves(1), 0);
        x.back(1);
        x.reading(2, 1, 1);
        due.is("a pair: calves(2)", x.calves(2), 1 << 1 | 1 << 2);
        x.reading(2, 2, 3);
        due.is("both can't be: calves(2)", x.calves(2), 0);
        due.is("calves(4)", x.calves(4), -1);
        due.is("calves(-1)", x.calves(-1), -1);
        due.is("its own are as they were", x.ofFootman(2, 3), 4);
    }

    private static void kinds() {
        PromiseWalk x = Towns.of("t25;b011;m013;p018");
        due.is("no readings: kinds(0)", x.kinds(0), ALL_KINDS);
        x.reading(0, 4, 4);
        due.is("a boy or a pair: kinds(0)", x.kinds(0), 1 << 0 | 1 << 2);
        x.back(1);
        x.reading(1, 0, 0);
        x.reading(1, 5, 20);
        due.is("a man: kinds(1)", x.kinds(1), 1 << 1);
        x.reading(1, 0, 1);
        due.is("in no days nobody walks: kinds(1)", x.kinds(1), 0);
        x.back(1);
        x.reading(2, 99, 396);
        due.is("a pair: kinds(2)", x.kinds(2), 1 << 2);
        due.is("kinds(3)", x.kinds(3), -1);
        due.is("kinds(-1)", x.kinds(-1), -1);
    }

    private static void readingsOfOthers() {
        PromiseWalk x = Towns.of("t25;b012;b013");
        x.reading(1, 2, 8);
        due.is("the other's reading can't be so: calves(0)", x.calves(0), 0);
        due.is("the other's reading can't be so: kinds(0)", x.kinds(0), 0);
        due.is("were it a man: kinds(1)", x.kinds(1), 1 << 1);
        due.is("were they four: calves(1)", x.calves(1), 1 << 4);
        x.days(9);
        due.is("as if it never arrived: calves(1)", x.calves(1), 1 << 4);
        x.give(0, 0, 1, 5);
        due.is("a reading of a given one", x.reading(2, 1, 6), 1);
        due.is("two can't be so: kinds(1)", x.kinds(1), 0);
    }

    private static void share(PromiseWalk x, int k, int n, int upper, int lower) {
        due.is("odds(" + k + ", " + n + ", 0)", x.odds(k, n, 0), upper);
        due.is("odds(" + k + ", " + n + ", 1)", x.odds(k, n, 1), lower);
    }

    private static void odds() {
        PromiseWalk x = Towns.of(Towns.FOUR);
        share(x, 0, 0, 0, 1);
        share(x, 0, 1, 1, 3);
        share(x, 0, 2, 2, 3);
        share(x, 0, 3, 1, 1);
        share(x, 2, 1, 0, 1);
        share(x, 2, 2, 2, 3);
        share(x, 2, 99, 1, 1);
        x.sit(0);
        x.days(9);
        share(x, 0, 1, 1, 3);
        PromiseWalk torn = Towns.of(Towns.TORN);
        share(torn, 0, 99, 1, 5);
        share(torn, 2, 1, 3, 5);
        PromiseWalk five = Towns.of("t51199000000;b004");
        share(five, 0, 1, 1, 2);
    }

    private static void oddsRefusals() {
        PromiseWalk x = Towns.of(Towns.FOUR);
        long lost = Long.MIN_VALUE;
        due.is("LOST", PromiseWalk.LOST, lost);
        due.is("odds(4, 0, 0)", x.odds(4, 0, 0), lost);
        due.is("odds(-1, 0, 0)", x.odds(-1, 0, 0), lost);
        due.is("odds(0, 100, 0)", x.odds(0, 100, 0), lost);
        due.is("odds(0, -1, 0)", x.odds(0, -1, 0), lost);
        due.is("odds(0, 0, 2)", x.odds(0, 0, 2), lost);
        due.is("odds(0, 0, -1)", x.odds(0, 0, -1), lost);
        due.is("without a town", new PromiseWalk().odds(0, 0, 0), lost);
        x.put(0, 99, 0);
        x.odds(4, 0, 0);
        due.is("odds names no fault: fault()", x.fault(), 3);
    }
}
