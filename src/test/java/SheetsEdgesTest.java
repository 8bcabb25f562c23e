/** "Terms", ==== 5, and promises 23 to 33, sentence by sentence. */
public final class SheetsEdgesTest {
    private static final int MIN = Integer.MIN_VALUE, MAX = Integer.MAX_VALUE;
    private static final long LOST = Long.MIN_VALUE;
    private static final Due due = new Due("SheetsEdgesTest");

    public static void main(String[] args) {
        due.each(
            SheetsEdgesTest::rowOfNone,
            SheetsEdgesTest::rowOfSixty,
            SheetsEdgesTest::rowOfMore,
            SheetsEdgesTest::rowOfLess,
            SheetsEdgesTest::zeroAtFirst,
            SheetsEdgesTest::newRowForTheOld,
            SheetsEdgesTest::fourSheets,
            SheetsEdgesTest::loseWhatItHas,
            SheetsEdgesTest::cutToAByte,
            SheetsEdgesTest::cutToAShort,
            SheetsEdgesTest::notCutOfInts,
            SheetsEdgesTest::copiedIsAsItWas,
            SheetsEdgesTest::cellAtBothEnds,
            SheetsEdgesTest::cellOfAnotherLane,
            SheetsEdgesTest::copiedOntoItselfOver,
            SheetsEdgesTest::copiedOntoItselfUnder,
            SheetsEdgesTest::copiedOntoItselfInPlace,
            SheetsEdgesTest::copiedFromTheFirstToTheOther,
            SheetsEdgesTest::copiedNone,
            SheetsEdgesTest::copiedAllOfSixty,
            SheetsEdgesTest::copyThatIsFaultedCopiesNone,
            SheetsEdgesTest::telling,
            SheetsEdgesTest::rung,
            SheetsEdgesTest::traceOfEachBody,
            SheetsEdgesTest::traceWraps,
            SheetsEdgesTest::traceOfOthersStays,
            SheetsEdgesTest::takenAsOneOfAKind,
            SheetsEdgesTest::faultOfTheLatest,
            SheetsEdgesTest::manyOfEach,
            SheetsEdgesTest::manyWithoutATown);
        due.finish();
    }

    private static void cellsAre(PromiseWalk x, int k, int lane, int... numbers) {
        for (int i = 0; i < numbers.length; i++) {
            due.is("cell(" + k + ", " + i + ", " + lane + ")", x.cell(k, i, lane), numbers[i]);
        }
        due.is("cell(" + k + ", " + numbers.length + ", " + lane + ")", x.cell(k, numbers.length, lane), LOST);
        due.is("one beyond: fault()", x.fault(), 3);
    }

    private static void rowOfNone() {
        due.sentence("a row of 0 numbers is no nothing");
        for (int lane = 0; lane <= 2; lane++) {
            PromiseWalk x = new PromiseWalk();
            due.is("sheet", x.sheet(1, lane, 0), 1);
            due.is("fault()", x.fault(), 0);
            cellsAre(x, 1, lane);
            due.is("put", x.put(1, 0, 1), -13);
            due.is("put below", x.put(1, -1, 1), -13);
            due.is("copy", x.copy(1, 0, 1, 0, 0), 0);
            due.is("copy one", x.copy(1, 0, 1, 0, 1), -13);
            due.is("town", x.town(1, lane, 0, 0), -100);
            due.is("as of another LANE", x.cell(1, 0, (lane + 1) % 3), LOST);
            due.is("fault()", x.fault(), 2);
            due.is("lose", x.lose(1), 1);
            due.is("lose again", x.lose(1), 0);
        }
    }

    private static void rowOfSixty() {
        due.sentence("a row of 60 numbers");
        for (int lane = 0; lane <= 2; lane++) {
            PromiseWalk x = new PromiseWalk();
            int[] want = new int[60];
            due.is("sheet", x.sheet(2, lane, 60), 1);
            for (int i = 0; i < 60; i++) {
                want[i] = i - 30;
                due.is("put " + i, x.put(2, i, want[i]), 1);
            }
            cellsAre(x, 2, lane, want);
            due.is("put 60", x.put(2, 60, 1), -13);
            due.is("put 59", x.put(2, 59, 100), 1);
            due.is("the last one", x.cell(2, 59, lane), 100);
        }
    }

    private static void rowOfMore() {
        due.sentence("sheet, OUTSIDE: n above 60");
        PromiseWalk x = new PromiseWalk();
        Towns.row(x, 0, Towns.SHORTS, 7);
        for (int n : new int[] {61, 62, 100, MAX}) {
            due.is("sheet of " + n, x.sheet(0, Towns.BYTES, n), -2);
            due.is("fault()", x.fault(), 0);
        }
        cellsAre(x, 0, Towns.SHORTS, 7);
    }

    private static void rowOfLess() {
        due.sentence("sheet, SIZE: a length below 0");
        PromiseWalk x = new PromiseWalk();
        Towns.row(x, 0, Towns.SHORTS, 7);
        for (int n : new int[] {-1, -2, -60, MIN}) {
            due.is("sheet of " + n, x.sheet(0, Towns.BYTES, n), -14);
            due.is("fault()", x.fault(), 4);
        }
        cellsAre(x, 0, Towns.SHORTS, 7);
        due.is("where nothing was", x.sheet(1, Towns.INTS, -1), -14);
        due.is("nothing is", x.lose(1), 0);
    }

    private static void zeroAtFirst() {
        due.sentence("a row of numbers (0 at first)");
        for (int lane = 0; lane <= 2; lane++) {
            PromiseWalk x = new PromiseWalk();
            x.sheet(0, lane, 60);
            cellsAre(x, 0, lane, new int[60]);
            for (int i = 0; i < 60; i++) {
                x.put(0, i, 5);
            }
            x.sheet(0, lane, 60);
            cellsAre(x, 0, lane, new int[60]);
            x.put(0, 3, 5);
            x.lose(0);
            x.sheet(0, (lane + 1) % 3, 5);
            cellsAre(x, 0, (lane + 1) % 3, new int[5]);
        }
    }

    private static void newRowForTheOld() {
        due.sentence("a SHEET gets a new row, of that LANE, of so many");
        PromiseWalk x = new PromiseWalk();
        Towns.row(x, 0, Towns.INTS, 1, 2, 3, 70001);
        due.is("shorter", x.sheet(0, Towns.INTS, 2), 1);
        cellsAre(x, 0, Towns.INTS, 0, 0);
        due.is("longer", x.sheet(0, Towns.INTS, 5), 1);
        cellsAre(x, 0, Towns.INTS, 0, 0, 0, 0, 0);
        due.is("of bytes", x.sheet(0, Towns.BYTES, 1), 1);
        due.is("put", x.put(0, 0, 300), 1);
        cellsAre(x, 0, Towns.BYTES, 44);
        due.is("of shorts", x.sheet(0, Towns.SHORTS, 1), 1);
        due.is("no bytes any more", x.cell(0, 0, Towns.BYTES), LOST);
        due.is("fault()", x.fault(), 2);
    }

    private static void fourSheets() {
        due.sentence("SHEETS 0 .. 3, each by itself");
        PromiseWalk x = new PromiseWalk();
        for (int k = 0; k <= 3; k++) {
            Towns.row(x, k, k % 3, 10 + k, 20 + k);
        }
        for (int k = 0; k <= 3; k++) {
            cellsAre(x, k, k % 3, 10 + k, 20 + k);
        }
        due.is("lose(2)", x.lose(2), 1);
        cellsAre(x, 1, 1, 11, 21);
        cellsAre(x, 3, 0, 13, 23);
        due.is("sheet(4, ..)", x.sheet(4, 0, 1), -1);
        due.is("sheet(-1, ..)", x.sheet(-1, 0, 1), -1);
    }

    private static void loseWhatItHas() {
        due.sentence("a SHEET has nothing: 1; 0: it had nothing");
        PromiseWalk x = new PromiseWalk();
        for (int k = 0; k <= 3; k++) {
            due.is("lose(" + k + ") at first", x.lose(k), 0);
            x.sheet(k, k % 3, 1);
            due.is("lose(" + k + ")", x.lose(k), 1);
            due.is("lose(" + k + ") again", x.lose(k), 0);
            due.is("put", x.put(k, 0, 1), -11);
            for (int lane = 0; lane <= 2; lane++) {
                due.is("cell", x.cell(k, 0, lane), LOST);
                due.is("cell: fault()", x.fault(), 1);
            }
        }
        due.is("lose(4)", x.lose(4), -1);
        due.is("lose(-1)", x.lose(-1), -1);
    }

    private static void put(PromiseWalk x, int k, int lane, int v, int want) {
        due.is("put " + v, x.put(k, 0, v), 1);
        due.is("cell of " + v, x.cell(k, 0, lane), want);
    }

    private static void cutToAByte() {
        due.sentence("what comes to a cell is cut to a byte, with its sign");
        PromiseWalk x = new PromiseWalk();
        x.sheet(0, Towns.BYTES, 1);
        int[][] cut = {{127, 127}, {128, -128}, {129, -127}, {255, -1}, {256, 0}, {257, 1}, {-1, -1}, {-128, -128}, {-129, 127}, {-256, 0},
            {-257, -1}, {384, -128}, {32767, -1}, {32768, 0}, {65535, -1}, {65664, -128}, {MAX, -1}, {MIN, 0}, {MIN + 128, -128}};
        for (int[] pair : cut) {
            put(x, 0, Towns.BYTES, pair[0], pair[1]);
        }
    }

    private static void cutToAShort() {
        due.sentence("what comes to a cell is cut to a short, with its sign");
        PromiseWalk x = new PromiseWalk();
        x.sheet(0, Towns.SHORTS, 1);
        int[][] cut = {{127, 127}, {128, 128}, {-129, -129}, {32767, 32767}, {32768, -32768}, {32769, -32767}, {65535, -1}, {65536, 0},
            {65537, 1}, {-1, -1}, {-32768, -32768}, {-32769, 32767}, {-65536, 0}, {-65537, -1}, {98304, -32768}, {MAX, -1}, {MIN, 0}};
        for (int[] pair : cut) {
            put(x, 0, Towns.SHORTS, pair[0], pair[1]);
        }
    }

    private static void notCutOfInts() {
        due.sentence("what comes to a cell of ints is as it was");
        PromiseWalk x = new PromiseWalk();
        x.sheet(0, Towns.INTS, 1);
        for (int v : new int[] {0, 127, 128, -129, 32767, 32768, -32769, 65536, MAX, MIN, -1}) {
            put(x, 0, Towns.INTS, v, v);
        }
    }

    private static void copiedIsAsItWas() {
        due.sentence("copy: cells go as they were, of one LANE, cut when they were put");
        for (int lane = 0; lane <= 2; lane++) {
            PromiseWalk x = new PromiseWalk();
            Towns.row(x, 0, lane, 200, 40000, MIN, -1);
            Towns.row(x, 1, lane, 1, 1, 1, 1);
            due.is("copy", x.copy(0, 0, 1, 0, 4), 4);
            for (int i = 0; i < 4; i++) {
                due.is("lane " + lane + ", cell " + i, x.cell(1, i, lane), x.cell(0, i, lane));
            }
            due.is("200 of lane " + lane, x.cell(1, 0, lane), lane == 0 ? -56 : 200);
            x.put(0, 0, 5);
            due.is("they are two rows still", x.cell(1, 0, lane), lane == 0 ? -56 : 200);
        }
    }

    private static void cellAtBothEnds() {
        due.sentence("cell i: 0 .. one less than there are");
        for (int n : new int[] {1, 2, 59, 60}) {
            PromiseWalk x = new PromiseWalk();
            x.sheet(0, Towns.INTS, n);
            for (int i : new int[] {-1, n, MIN, MAX}) {
                due.is("put " + i + " of " + n, x.put(0, i, 1), -13);
                due.is("cell " + i + " of " + n, x.cell(0, i, Towns.INTS), LOST);
                due.is("fault()", x.fault(), 3);
            }
            due.is("put 0", x.put(0, 0, 8), 1);
            due.is("put the last", x.put(0, n - 1, 9), 1);
            due.is("cell of the last", x.cell(0, n - 1, Towns.INTS), 9);
            due.is("cell 0", x.cell(0, 0, Towns.INTS), n == 1 ? 9 : 8);
        }
    }

    private static void cellOfAnotherLane() {
        due.sentence("cell i of what a SHEET has, taken as a row of a LANE");
        for (int lane = 0; lane <= 2; lane++) {
            PromiseWalk x = new PromiseWalk();
            Towns.row(x, 3, lane, 6);
            for (int of = 0; of <= 2; of++) {
                due.is("lane " + lane + " as " + of, x.cell(3, 0, of), of == lane ? 6 : LOST);
                due.is("fault()", x.fault(), of == lane ? 0 : 2);
            }
        }
    }

    private static void copiedOntoItselfOver() {
        due.sentence("a SHEET copied onto itself, over: from j on above i");
        for (int lane = 0; lane <= 2; lane++) {
            PromiseWalk x = new PromiseWalk();
            Towns.row(x, 0, lane, 1, 2, 3, 4, 5, 6);
            due.is("by one", x.copy(0, 0, 0, 1, 5), 5);
            cellsAre(x, 0, lane, 1, 1, 2, 3, 4, 5);
            due.is("by two", x.copy(0, 1, 0, 3, 3), 3);
            cellsAre(x, 0, lane, 1, 1, 2, 1, 2, 3);
            due.is("to where it has not been", x.copy(0, 0, 0, 3, 3), 3);
            cellsAre(x, 0, lane, 1, 1, 2, 1, 1, 2);
        }
    }

    private static void copiedOntoItselfUnder() {
        due.sentence("a SHEET copied onto itself, under: from j on below i");
        for (int lane = 0; lane <= 2; lane++) {
            PromiseWalk x = new PromiseWalk();
            Towns.row(x, 0, lane, 1, 2, 3, 4, 5, 6);
            due.is("by one", x.copy(0, 1, 0, 0, 5), 5);
            cellsAre(x, 0, lane, 2, 3, 4, 5, 6, 6);
            due.is("by two", x.copy(0, 3, 0, 1, 3), 3);
            cellsAre(x, 0, lane, 2, 5, 6, 6, 6, 6);
            due.is("to where it has not been", x.copy(0, 2, 0, 0, 2), 2);
            cellsAre(x, 0, lane, 6, 6, 6, 6, 6, 6);
        }
    }

    private static void copiedOntoItselfInPlace() {
        due.sentence("a SHEET copied onto itself, where it was");
        PromiseWalk x = new PromiseWalk();
        Towns.row(x, 0, Towns.INTS, 1, 2, 3);
        due.is("all", x.copy(0, 0, 0, 0, 3), 3);
        due.is("one", x.copy(0, 2, 0, 2, 1), 1);
        cellsAre(x, 0, Towns.INTS, 1, 2, 3);
    }

    private static void copiedFromTheFirstToTheOther() {
        due.sentence("n cells of a SHEET from i on go to another one from j on: n");
        PromiseWalk x = new PromiseWalk();
        Towns.row(x, 2, Towns.SHORTS, 1, 2, 3, 4, 5);
        Towns.row(x, 1, Towns.SHORTS, 10, 20, 30, 40);
        due.is("copy(2, 3, 1, 1, 2)", x.copy(2, 3, 1, 1, 2), 2);
        cellsAre(x, 2, Towns.SHORTS, 1, 2, 3, 4, 5);
        cellsAre(x, 1, Towns.SHORTS, 10, 4, 5, 40);
        due.is("copy(1, 0, 2, 4, 1)", x.copy(1, 0, 2, 4, 1), 1);
        cellsAre(x, 2, Towns.SHORTS, 1, 2, 3, 4, 10);
        cellsAre(x, 1, Towns.SHORTS, 10, 4, 5, 40);
    }

    private static void copiedNone() {
        due.sentence("copy: n 0 copies none");
        PromiseWalk x = new PromiseWalk();
        Towns.row(x, 0, Towns.INTS, 1, 2);
        Towns.row(x, 1, Towns.INTS, 3, 4, 5);
        for (int i = 0; i <= 2; i++) {
            for (int j = 0; j <= 3; j++) {
                due.is("from " + i + " to " + j, x.copy(0, i, 1, j, 0), 0);
            }
        }
        cellsAre(x, 0, Towns.INTS, 1, 2);
        cellsAre(x, 1, Towns.INTS, 3, 4, 5);
    }

    private static void copiedAllOfSixty() {
        due.sentence("copy: all of sixty cells, and not one beyond");
        PromiseWalk x = new PromiseWalk();
        int[] numbers = new int[60];
        for (int i = 0; i < 60; i++) {
            numbers[i] = 1000 * i;
        }
        Towns.row(x, 0, Towns.INTS, numbers);
        x.sheet(1, Towns.INTS, 60);
        due.is("one more", x.copy(0, 0, 1, 0, 61), -13);
        due.is("all from 1 on", x.copy(0, 1, 1, 0, 60), -13);
        due.is("all to 1", x.copy(0, 0, 1, 1, 60), -13);
        due.is("the last one", x.copy(0, 59, 1, 0, 1), 1);
        due.is("it is there", x.cell(1, 0, Towns.INTS), 59000);
        due.is("all", x.copy(0, 0, 1, 0, 60), 60);
        cellsAre(x, 1, Towns.INTS, numbers);
    }

    private static void copyThatIsFaultedCopiesNone() {
        due.sentence("copy, INDEX: i, j, n below 0 or beyond; none is copied");
        PromiseWalk x = new PromiseWalk();
        Towns.row(x, 0, Towns.INTS, 1, 2, 3, 4);
        Towns.row(x, 1, Towns.INTS, 7, 8);
        int[][] beyond = {{0, 0, 3}, {0, 1, 2}, {3, 0, 2}, {-1, 0, 2}, {0, -1, 2}, {0, 0, -1}, {5, 0, 0}, {0, 3, 0}};
        for (int[] b : beyond) {
            due.is("from " + b[0] + " to " + b[1] + ": " + b[2], x.copy(0, b[0], 1, b[1], b[2]), -13);
            due.is("fault()", x.fault(), 3);
        }
        due.is("there is room", x.copy(1, 0, 0, 2, 2), 2);
        due.is("there is none", x.copy(1, 0, 0, 3, 2), -13);
        cellsAre(x, 0, Towns.INTS, 1, 2, 7, 8);
        cellsAre(x, 1, Towns.INTS, 7, 8);
    }

    private static void telling() {
        due.sentence("BOY: CALVES. MAN: what a BOY's gives, and 100. PAIR: what a MAN's gives, and what a BOY's gives");
        for (int calves = 1; calves <= 9; calves++) {
            PromiseWalk x = Towns.of("t25;b01" + calves + ";m01" + calves + ";p01" + calves);
            due.is("BOY", x.tell(0), calves);
            due.is("MAN", x.tell(1), calves + 100);
            due.is("PAIR", x.tell(2), 2 * calves + 100);
        }
    }

    private static void rung() {
        due.sentence("RUNG for by a lent body: its number; PAIRS have their own: 60");
        PromiseWalk x = Towns.of("t25;b011;p012;m013;b014;m015");
        x.give(2, 0, 0, 1);
        int[] want = {0, 60, 2, 3, 4, 60};
        for (int k = 0; k < 6; k++) {
            due.is("ring(" + k + ")", x.ring(k), want[k]);
        }
    }

    private static void traceOfEachBody() {
        due.sentence("bodies leave their number in TRACE as they begin: it becomes 31 times it and the number");
        due.is("at first", new PromiseWalk().trace(), 0);
        due.is("a BOY is told of: 1", tracedBy("b", true), 1);
        due.is("a MAN: 2, 1", tracedBy("m", true), 2 * 31 + 1);
        due.is("a PAIR: 3, 2, 1, 1 (the MAN's left out)", tracedBy("p", true), ((3 * 31 + 2) * 31 + 1) * 31 + 1);
        due.is("a BOY is RUNG for: 4", tracedBy("b", false), 4);
        due.is("a MAN is RUNG for: 4", tracedBy("m", false), 4);
        due.is("a PAIR is RUNG for: 5", tracedBy("p", false), 5);
        PromiseWalk x = Towns.of("t25;b011;p012;m013");
        x.ring(1);
        x.tell(2);
        x.ring(0);
        x.tell(0);
        due.is("one behind another", x.trace(), (((5 * 31 + 2) * 31 + 1) * 31 + 4) * 31 + 1);
    }

    private static int tracedBy(String letter, boolean told) {
        PromiseWalk x = Towns.of("t25;" + letter + "013");
        if (told) {
            x.tell(0);
        } else {
            x.ring(0);
        }
        return x.trace();
    }

    private static void traceWraps() {
        due.sentence("TRACE, an int that wraps");
        PromiseWalk x = Towns.of("t25;b011");
        int[] want = {4, 128, 3972, 123136, 3817220, 118333824, -626618748, 2049655296, -885195260, -1671249280};
        long wide = 0;
        for (int call = 0; call < want.length; call++) {
            x.ring(0);
            due.is("RUNG for " + (call + 1) + " times", x.trace(), want[call]);
            wide = wide * 31 + 4;
            due.is("its lower 32 bits", x.trace(), (int) wide);
        }
        due.holds("it does wrap", wide > MAX);
        PromiseWalk pair = Towns.of("t25;p011");
        int trace = 0;
        for (int call = 0; call < 40; call++) {
            pair.tell(0);
            trace = (((trace * 31 + 3) * 31 + 2) * 31 + 1) * 31 + 1;
            due.is("told of " + (call + 1) + " times", pair.trace(), trace);
        }
    }

    private static void traceOfOthersStays() {
        due.sentence("no other call leaves a number in TRACE");
        PromiseWalk x = Towns.full();
        int trace = x.trace();
        x.ofFootman(2, 4);
        x.pave(0, 1, 3);
        x.days(1);
        x.sit(0);
        x.rise(0);
        x.season(1, Towns.INTS, 0, 1, 0);
        x.way(0, 3, 1);
        x.round(0, 1);
        x.kept(0);
        x.middle(0);
        x.tree(0);
        x.errands(0);
        x.back(1);
        x.reading(0, 0, 0);
        x.calves(2);
        x.kinds(2);
        x.odds(2, 1, 0);
        x.as(2, 1);
        x.as(0, 2);
        x.tell(6);
        x.ring(-1);
        x.many(3);
        x.town(0, Towns.BYTES, 0, 28);
        due.is("trace()", x.trace(), trace);
        due.is("trace() again", x.trace(), trace);
    }

    private static void takenAsOneOfAKind() {
        due.sentence("0 BOY; 1 MAN, a BOY; 2 PAIR, a MAN: taken as one of a kind: 1; CAST: it is none");
        PromiseWalk x = Towns.of("t25;b011;m011;p011");
        for (int k = 0; k <= 2; k++) {
            for (int kind = 0; kind <= 2; kind++) {
                due.is("as(" + k + ", " + kind + ")", x.as(k, kind), kind <= k ? 1 : -12);
                due.is("fault()", x.fault(), kind <= k ? 0 : 2);
            }
            due.is("as(" + k + ", 3)", x.as(k, 3), -2);
            due.is("as(" + k + ", -1)", x.as(k, -1), -2);
        }
        due.is("as(3, 0)", x.as(3, 0), -1);
    }

    private static void faultOfTheLatest() {
        due.sentence("fault(): the FAULT of the latest call that names one");
        PromiseWalk x = Towns.busy();
        x.put(3, 0, 0);
        due.is("put into nothing", x.fault(), 1);
        x.as(0, 1);
        due.is("a BOY as a MAN", x.fault(), 2);
        x.cell(0, 28, 0);
        due.is("a cell beyond", x.fault(), 3);
        x.town(0, 0, 0, -1);
        due.is("-1 cells", x.fault(), 4);
        x.copy(0, 0, 3, 0, 0);
        due.is("a copy to nothing", x.fault(), 1);
        x.season(1, 0, 0, 0, 0);
        due.is("a SEASON of ints as bytes", x.fault(), 2);
        x.sheet(3, 0, MIN);
        due.is("a row of less than none", x.fault(), 4);
        due.is("asked again", x.fault(), 4);
        x.put(1, 0, 0);
        due.is("none", x.fault(), 0);
    }

    private static void manyOfEach() {
        due.sentence("how many: 0 FOOTMEN, 1 CORNERS, 2 which DAY it is, 3 who have ARRIVED, 4 READINGS");
        PromiseWalk x = Towns.of("t6111111111111111;b011;b029");
        x.days(1);
        x.pave(0, 1, 2);
        x.pave(1, 2, 0);
        x.days(4);
        x.pave(0, 2, 0);
        x.reading(0, 1, 1);
        x.reading(0, 1, 1);
        x.reading(0, 1, 1);
        int[] want = {2, 6, 5, 2, 3};
        for (int what = 0; what <= 4; what++) {
            due.is("many(" + what + ")", x.many(what), want[what]);
        }
        x.pave(2, 3, 0);
        x.pave(2, 4, 0);
        x.pave(2, 5, 0);
        due.is("who can't any more have not ARRIVED", x.many(3), 1);
        due.is("many(5)", x.many(5), -2);
        due.is("many(-1)", x.many(-1), -2);
    }

    private static void manyWithoutATown() {
        due.sentence("how many: 0 all without a TOWN");
        PromiseWalk x = Towns.bare();
        x.town(0, Towns.BYTES, 0, 27);
        for (int what = 0; what <= 4; what++) {
            due.is("many(" + what + ")", x.many(what), 0);
        }
        due.is("many(5)", x.many(5), -2);
        due.is("many(-1)", x.many(-1), -2);
    }
}
