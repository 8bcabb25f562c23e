/** Promises 23 to 33: SHEETS, the parts, TRACE, the FAULT, how many. */
public final class SheetsTest {
    private static final long LOST = Long.MIN_VALUE;
    private static final Due due = new Due("SheetsTest");

    public static void main(String[] args) {
        sheet();
        lose();
        put();
        lanesCut();
        cell();
        copy();
        copyRefusalsAndFaults();
        tell();
        ring();
        as();
        traceWraps();
        fault();
        many();
        due.finish();
    }

    private static void sheet() {
        PromiseWalk x = new PromiseWalk();
        due.is("sheet(3, 2, 60)", x.sheet(3, 2, 60), 1);
        due.is("its last cell", x.cell(3, 59, 2), 0);
        x.put(3, 0, 7);
        due.is("a new row", x.sheet(3, 2, 60), 1);
        due.is("its cells are 0", x.cell(3, 0, 2), 0);
        due.is("a row of none", x.sheet(3, 0, 0), 1);
        due.is("it has no cell", x.put(3, 0, 1), -13);
        due.is("sheet(4, 3, -1)", x.sheet(4, 3, -1), -1);
        due.is("refused: fault()", x.fault(), 0);
        due.is("sheet(-1, 0, 0)", x.sheet(-1, 0, 0), -1);
        due.is("sheet(0, 3, -1)", x.sheet(0, 3, -1), -2);
        due.is("sheet(0, -1, 1)", x.sheet(0, -1, 1), -2);
        due.is("sheet(0, 0, 61)", x.sheet(0, 0, 61), -2);
        due.is("sheet(0, 0, MAX)", x.sheet(0, 0, Integer.MAX_VALUE), -2);
        due.is("sheet(0, 0, -1)", x.sheet(0, 0, -1), -14);
        due.is("SIZE: fault()", x.fault(), 4);
        due.is("nothing was made", x.lose(0), 0);
        due.is("sheet(0, 0, 1)", x.sheet(0, 0, 1), 1);
        due.is("no fault: fault()", x.fault(), 0);
    }

    private static void lose() {
        PromiseWalk x = new PromiseWalk();
        due.is("nothing: lose(2)", x.lose(2), 0);
        x.sheet(2, 1, 0);
        x.put(2, 0, 1);
        due.is("a row of none: lose(2)", x.lose(2), 1);
        due.is("lose(2) again", x.lose(2), 0);
        due.is("lose(4)", x.lose(4), -1);
        due.is("lose(-1)", x.lose(-1), -1);
        due.is("lose names no fault: fault()", x.fault(), 3);
        due.is("nothing: put", x.put(2, 0, 1), -11);
    }

    private static void put() {
        PromiseWalk x = new PromiseWalk();
        x.sheet(1, 2, 3);
        due.is("put(1, 2, 9)", x.put(1, 2, 9), 1);
        due.is("it is there", x.cell(1, 2, 2), 9);
        due.is("the others are not", x.cell(1, 1, 2), 0);
        due.is("put(1, 3, 9)", x.put(1, 3, 9), -13);
        due.is("INDEX: fault()", x.fault(), 3);
        due.is("put(1, -1, 9)", x.put(1, -1, 9), -13);
        due.is("put(1, MIN, 9)", x.put(1, Integer.MIN_VALUE, 9), -13);
        due.is("NULL ahead of INDEX", x.put(2, -1, 9), -11);
        due.is("NULL: fault()", x.fault(), 1);
        due.is("put(4, -1, 9)", x.put(4, -1, 9), -1);
        due.is("refused: fault()", x.fault(), 0);
        due.is("put(-1, 0, 9)", x.put(-1, 0, 9), -1);
    }

    private static void lanesCut() {
        int[] numbers = {127, 128, 255, -129, 32767, 32768, 65535, -32769, 70001, Integer.MIN_VALUE, Integer.MAX_VALUE};
        PromiseWalk x = new PromiseWalk();
        for (int lane = 0; lane <= 2; lane++) {
            Towns.row(x, lane, lane, numbers);
            for (int i = 0; i < numbers.length; i++) {
                int cut = lane == 0 ? (byte) numbers[i] : lane == 1 ? (short) numbers[i] : numbers[i];
                due.is("lane " + lane + " of " + numbers[i], x.cell(lane, i, lane), cut);
            }
        }
    }

    private static void cell() {
        PromiseWalk x = new PromiseWalk();
        x.sheet(0, 1, 2);
        x.put(0, 1, -5);
        due.is("cell(0, 1, 1)", x.cell(0, 1, 1), -5);
        due.is("no fault: fault()", x.fault(), 0);
        due.is("CAST ahead of INDEX", x.cell(0, 2, 0), LOST);
        due.is("CAST: fault()", x.fault(), 2);
        due.is("UNKNOWN", x.cell(4, 0, 1), LOST);
        due.is("refused: fault()", x.fault(), 0);
        due.is("NULL, of any lane", x.cell(1, -1, 2), LOST);
        due.is("NULL: fault()", x.fault(), 1);
        due.is("OUTSIDE", x.cell(0, 0, 3), LOST);
        due.is("refused: fault()", x.fault(), 0);
        due.is("INDEX", x.cell(0, 2, 1), LOST);
        due.is("INDEX: fault()", x.fault(), 3);
        due.is("OUTSIDE ahead of NULL", x.cell(1, 0, -1), LOST);
        due.is("refused: fault()", x.fault(), 0);
        due.is("INDEX below 0", x.cell(0, -1, 1), LOST);
        due.is("INDEX: fault()", x.fault(), 3);
        due.is("UNKNOWN below 0", x.cell(-1, 0, 1), LOST);
        due.is("refused: fault()", x.fault(), 0);
    }

    private static void rowIs(PromiseWalk x, int sheet, int lane, int... numbers) {
        for (int i = 0; i < numbers.length; i++) {
            due.is("cell(" + sheet + ", " + i + ")", x.cell(sheet, i, lane), numbers[i]);
        }
    }

    private static void copy() {
        PromiseWalk x = new PromiseWalk();
        Towns.row(x, 0, Towns.INTS, 1, 2, 3, 4, 5);
        Towns.row(x, 1, Towns.INTS, 9, 9, 9);
        due.is("copy(0, 3, 1, 0, 2)", x.copy(0, 3, 1, 0, 2), 2);
        rowIs(x, 1, Towns.INTS, 4, 5, 9);
        due.is("onwards over itself", x.copy(0, 0, 0, 1, 4), 4);
        rowIs(x, 0, Towns.INTS, 1, 1, 2, 3, 4);
        due.is("backwards over itself", x.copy(0, 1, 0, 0, 4), 4);
        rowIs(x, 0, Towns.INTS, 1, 2, 3, 4, 4);
        due.is("none, at both ends", x.copy(0, 5, 1, 3, 0), 0);
        due.is("no fault: fault()", x.fault(), 0);
    }

    private static void copyRefusalsAndFaults() {
        PromiseWalk x = new PromiseWalk();
        Towns.row(x, 0, Towns.INTS, 1, 2, 3);
        Towns.row(x, 1, Towns.INTS, 7, 8);
        x.sheet(2, Towns.BYTES, 3);
        due.is("copy(4, ..)", x.copy(4, -1, 3, 0, 1), -1);
        due.is("copy(3, 0, 4, ..), UNKNOWN ahead of NULL", x.copy(3, 0, 4, 0, 1), -1);
        due.is("refused: fault()", x.fault(), 0);
        due.is("NULL, the first", x.copy(3, 0, 2, 0, -1), -11);
        due.is("NULL, the other", x.copy(2, 0, 3, 0, -1), -11);
        due.is("NULL: fault()", x.fault(), 1);
        due.is("CAST ahead of INDEX", x.copy(0, -1, 2, 0, 1), -12);
        due.is("CAST of none", x.copy(2, 0, 1, 0, 0), -12);
        due.is("CAST: fault()", x.fault(), 2);
        int[][] beyond = {{-1, 0, 1}, {0, -1, 1}, {0, 0, -1}, {2, 0, 2}, {0, 1, 2}, {0, 0, 3}, {4, 0, 0}, {0, 3, 0}, {-1, 0, 0},
            {0, -1, 0}, {1, 1, Integer.MAX_VALUE}, {Integer.MAX_VALUE, 0, 1}, {0, Integer.MAX_VALUE, 1}, {0, 0, Integer.MIN_VALUE}};
        for (int[] b : beyond) {
            due.is("INDEX " + b[0] + " " + b[1] + " " + b[2], x.copy(0, b[0], 1, b[1], b[2]), -13);
        }
        due.is("INDEX: fault()", x.fault(), 3);
        rowIs(x, 1, Towns.INTS, 7, 8);
    }

    private static void tell() {
        PromiseWalk x = Towns.of("t25;b013;m014;p015");
        due.is("tell(0)", x.tell(0), 3);
        int trace = 1;
        due.is("a boy: trace()", x.trace(), trace);
        due.is("tell(1)", x.tell(1), 104);
        trace = (trace * 31 + 2) * 31 + 1;
        due.is("a man: trace()", x.trace(), trace);
        due.is("tell(2)", x.tell(2), 110);
        trace = (((trace * 31 + 3) * 31 + 2) * 31 + 1) * 31 + 1;
        due.is("a pair: trace()", x.trace(), trace);
        due.is("tell(3)", x.tell(3), -1);
        due.is("tell(-1)", x.tell(-1), -1);
        due.is("refused: trace()", x.trace(), trace);
    }

    private static void ring() {
        PromiseWalk x = Towns.of("t25;b013;m014;p015;m019");
        due.is("ring(0)", x.ring(0), 0);
        due.is("a boy: trace()", x.trace(), 4);
        due.is("ring(3)", x.ring(3), 3);
        due.is("a man: trace()", x.trace(), 4 * 31 + 4);
        due.is("ring(2)", x.ring(2), 60);
        due.is("a pair: trace()", x.trace(), (4 * 31 + 4) * 31 + 5);
        due.is("ring(4)", x.ring(4), -1);
        due.is("ring(-1)", x.ring(-1), -1);
        due.is("refused: trace()", x.trace(), (4 * 31 + 4) * 31 + 5);
    }

    private static void as() {
        PromiseWalk x = Towns.of("t25;b013;m014;p015");
        for (int k = 0; k <= 2; k++) {
            for (int kind = 0; kind <= 2; kind++) {
                due.is("as(" + k + ", " + kind + ")", x.as(k, kind), kind <= k ? 1 : -12);
                due.is("fault()", x.fault(), kind <= k ? 0 : 2);
            }
        }
        x.as(0, 2);
        due.is("as(3, 3)", x.as(3, 3), -1);
        due.is("refused: fault()", x.fault(), 0);
        x.as(0, 2);
        due.is("as(0, 3)", x.as(0, 3), -2);
        due.is("refused: fault()", x.fault(), 0);
        due.is("as(0, -1)", x.as(0, -1), -2);
        due.is("as(-1, 0)", x.as(-1, 0), -1);
    }

    private static void traceWraps() {
        PromiseWalk x = Towns.of("t25;p013");
        int trace = 0;
        for (int call = 0; call < 50; call++) {
            x.ring(0);
            trace = 31 * trace + 5;
            due.is("trace() behind " + (call + 1), x.trace(), trace);
        }
        due.is("trace() changes nothing", x.trace(), trace);
    }

    private static void fault() {
        PromiseWalk x = Towns.of(Towns.FOUR);
        x.put(3, 0, 0);
        x.far(9, 9);
        x.days(0);
        x.sit(0);
        x.sit(0);
        x.reading(0, 100, 0);
        x.tell(0);
        x.many(9);
        x.lose(9);
        due.is("calls that name none leave it", x.fault(), 1);
        due.is("fault() leaves it", x.fault(), 1);
        x.as(0, 0);
        due.is("as came to none", x.fault(), 0);
    }

    private static void many() {
        PromiseWalk x = Towns.of(Towns.FOUR);
        x.days(2);
        x.reading(0, 1, 1);
        int[] want = {4, 4, 2, 2, 1};
        for (int what = 0; what <= 4; what++) {
            due.is("many(" + what + ")", x.many(what), want[what]);
        }
        due.is("many(5)", x.many(5), -2);
        due.is("many(-1)", x.many(-1), -2);
        due.is("without a town: many(5)", new PromiseWalk().many(5), -2);
    }
}
