/** Promises 1 to 6: a new object, the TOWN, its STREETS, how FAR it is. */
public final class TownTest {
    private static final Due due = new Due("TownTest");

    public static void main(String[] args) {
        newObject();
        townTaken();
        townMakesAllAnew();
        townLanes();
        firstFaults();
        townRefusals();
        townFaults();
        ofFootman();
        street();
        pave();
        far();
        due.finish();
    }

    private static void newObject() {
        for (int what = 0; what <= 4; what++) {
            due.is("new: many(" + what + ")", new PromiseWalk().many(what), 0);
        }
        PromiseWalk x = new PromiseWalk();
        due.is("new: trace()", x.trace(), 0);
        due.is("new: fault()", x.fault(), 0);
        for (int k = 0; k < 4; k++) {
            due.is("new: lose(" + k + ")", x.lose(k), 0);
        }
        due.is("new: ofFootman(0, 0)", x.ofFootman(0, 0), -1);
        due.is("new: street(0, 1)", x.street(0, 1), -1);
        due.is("new: pave(0, 1, 1)", x.pave(0, 1, 1), -1);
        due.is("new: far(0, 0)", x.far(0, 0), -1);
    }

    private static void townTaken() {
        due.is("two corners, one footman", Towns.told("t20;b001"), 1);
        due.is("five footmen", Towns.told("t29;b019;m101;p111;b001;b111"), 5);
        PromiseWalk x = Towns.of("t6123456789123456;b054");
        due.is("six corners: many(1)", x.many(1), 6);
        due.is("street 0: street(0, 1)", x.street(0, 1), 1);
        due.is("street 4: street(0, 5)", x.street(0, 5), 5);
        due.is("street 5: street(1, 2)", x.street(1, 2), 6);
        due.is("street 9: street(2, 3)", x.street(2, 3), 1);
        due.is("street 14: street(4, 5)", x.street(4, 5), 6);
        due.is("behind town: fault()", x.fault(), 0);
    }

    private static void townMakesAllAnew() {
        PromiseWalk x = Towns.of(Towns.FOUR);
        x.tell(0);
        x.sit(0);
        x.days(3);
        x.reading(0, 1, 1);
        x.give(0, 1, 2, 1);
        Towns.write(x, 1, Towns.BYTES, "t23;b012;m013");
        due.is("a text with a fault", x.town(1, 0, 0, 12), -112);
        due.is("it leaves the footmen", x.many(0), 5);
        due.is("it leaves the day", x.many(2), 3);
        due.is("it leaves the readings", x.many(4), 1);
        due.is("town(1, 0, 0, 13)", x.town(1, 0, 0, 13), 2);
        due.is("anew: many(0)", x.many(0), 2);
        due.is("anew: many(1)", x.many(1), 2);
        due.is("anew: many(2)", x.many(2), 0);
        due.is("anew: many(3)", x.many(3), 0);
        due.is("anew: many(4)", x.many(4), 0);
        due.is("anew: has walked", x.ofFootman(1, 5), 0);
        due.is("anew: sits", x.ofFootman(0, 6), 0);
        due.is("anew: far(0, 2)", x.far(0, 2), -1);
        due.is("trace stays", x.trace(), 1);
        due.is("sheets stay", x.cell(0, 1, 0), '4');
    }

    private static void townLanes() {
        for (int lane = 0; lane <= 2; lane++) {
            PromiseWalk x = new PromiseWalk();
            Towns.write(x, 3, lane, "zzt25;p104zz");
            due.is("lane " + lane + ": town(3, lane, 2, 8)", x.town(3, lane, 2, 8), 1);
            due.is("lane " + lane + ": kind", x.ofFootman(0, 0), 2);
            due.is("lane " + lane + ": from", x.ofFootman(0, 1), 1);
            due.is("lane " + lane + ": street(0, 1)", x.street(0, 1), 5);
            due.is("lane " + lane + ": town(3, lane, 0, 12)", x.town(3, lane, 0, 12), -100);
            x.put(3, 2, 't' + 65536);
            due.is("lane " + lane + ": a wide code is cut", x.town(3, lane, 2, 8), lane == 2 ? -100 : 1);
            x.put(3, 2, 't' + 256);
            due.is("lane " + lane + ": a code above 255", x.town(3, lane, 2, 8), lane == 0 ? 1 : -100);
        }
    }

    private static void firstFaults() {
        String[] tooSoon = {"", "t", "t2", "t25", "t25;", "t25;b", "t25;b0", "t25;b01", "t25;b011;", "t3123;b0"};
        for (String text : tooSoon) {
            due.is("too soon: " + text, Towns.told(text), -100 - text.length());
        }
        due.is("a head that is none", Towns.told("T25;b011"), -100);
        due.is("one corner", Towns.told("t1;b001"), -101);
        due.is("seven corners", Towns.told("t7000"), -101);
        due.is("a length that is none", Towns.told("t2:;b011"), -102);
        due.is("a length below", Towns.told("t2/;b011"), -102);
        due.is("a last length that is none", Towns.told("t401234;;b011"), -107);
        due.is("a length too many", Towns.told("t255;b011"), -103);
        due.is("no kind", Towns.told("t25;B011"), -104);
        due.is("no such from", Towns.told("t25;b211"), -105);
        due.is("no such to", Towns.told("t25;b021"), -106);
        due.is("a corner below", Towns.told("t25;b0/1"), -106);
        due.is("the greatest corner", Towns.told("t3123;b221"), 1);
        due.is("no calves", Towns.told("t25;b010"), -107);
        due.is("calves above", Towns.told("t25;b01:"), -107);
        due.is("no second ;", Towns.told("t25;b011b"), -108);
        due.is("a fault in a second footman", Towns.told("t25;b011;x"), -109);
        due.is("a sixth footman", Towns.told("t25;b011;b011;b011;b011;b011;b011"), -128);
        due.is("the ; alone of a sixth", Towns.told("t25;b011;b011;b011;b011;b011;"), -128);
        due.is("the first of two faults", Towns.told("t25;x0x1"), -104);
    }

    private static void townRefusals() {
        PromiseWalk x = Towns.of("t25;b011");
        x.put(0, 99, 0);
        due.is("town(-1, ..)", x.town(-1, 3, 0, -1), -1);
        due.is("refused: fault()", x.fault(), 0);
        due.is("town(4, ..)", x.town(4, 0, 0, 8), -1);
        x.put(0, 99, 0);
        due.is("lane -1", x.town(0, -1, 0, -1), -2);
        due.is("refused: fault()", x.fault(), 0);
        due.is("lane 3, of nothing", x.town(1, 3, 0, 1), -2);
        due.is("refusals change nothing", x.many(0), 1);
    }

    private static void townFaults() {
        PromiseWalk x = Towns.of("t25;b011");
        due.is("CAST ahead of SIZE", x.town(0, 1, 0, -1), -12);
        due.is("CAST: fault()", x.fault(), 2);
        due.is("NULL ahead of SIZE", x.town(1, 1, -1, -1), -11);
        due.is("NULL: fault()", x.fault(), 1);
        due.is("SIZE ahead of INDEX", x.town(0, 0, -1, -1), -14);
        due.is("SIZE: fault()", x.fault(), 4);
        due.is("SIZE of the least number", x.town(0, 0, 0, Integer.MIN_VALUE), -14);
        due.is("INDEX: i below 0", x.town(0, 0, -1, 0), -13);
        due.is("INDEX: fault()", x.fault(), 3);
        due.is("INDEX: i beyond, none taken", x.town(0, 0, 9, 0), -13);
        due.is("i at the end, none taken", x.town(0, 0, 8, 0), -100);
        due.is("no fault: fault()", x.fault(), 0);
        due.is("INDEX: one beyond", x.town(0, 0, 1, 8), -13);
        due.is("INDEX: of very many", x.town(0, 0, 1, Integer.MAX_VALUE), -13);
        due.is("INDEX: of a very great i", x.town(0, 0, Integer.MAX_VALUE, 8), -13);
        due.is("faults change nothing", x.many(0), 1);
    }

    private static void ofFootman() {
        PromiseWalk x = Towns.of(Towns.FOUR);
        x.sit(3);
        x.days(2);
        int[][] want = {{0, 0, 2, 3, 3, 6, 0, 1}, {1, 3, 0, 1, 2, 4, 0, 0}, {2, 2, 2, 4, 2, 0, 0, 1}, {0, 1, 3, 1, 1, 0, 1, 0}};
        for (int k = 0; k < 4; k++) {
            for (int what = 0; what <= 7; what++) {
                due.is("ofFootman(" + k + ", " + what + ")", x.ofFootman(k, what), want[k][what]);
            }
        }
        due.is("ofFootman(4, 8)", x.ofFootman(4, 8), -1);
        due.is("ofFootman(-1, 0)", x.ofFootman(-1, 0), -1);
        due.is("ofFootman(0, 8)", x.ofFootman(0, 8), -2);
        due.is("ofFootman(0, -1)", x.ofFootman(0, -1), -2);
        paces();
    }

    private static void paces() {
        PromiseWalk x = Towns.of("t25;b011;m011;p011;p019;p018");
        int[] want = {1, 2, 1, 5, 4};
        for (int k = 0; k < want.length; k++) {
            due.is("pace of " + k, x.ofFootman(k, 4), want[k]);
        }
    }

    private static void street() {
        PromiseWalk x = Towns.of(Towns.FOUR);
        due.is("street(0, 2)", x.street(0, 2), 5);
        due.is("street(2, 0)", x.street(2, 0), 5);
        due.is("street(1, 3), there is none", x.street(1, 3), 0);
        due.is("street(2, 2)", x.street(2, 2), -1);
        due.is("street(0, 4)", x.street(0, 4), -1);
        due.is("street(-1, 0)", x.street(-1, 0), -1);
    }

    private static void pave() {
        PromiseWalk x = Towns.of(Towns.FOUR);
        due.is("pave(3, 0, 1)", x.pave(3, 0, 1), 0);
        due.is("paved: street(0, 3)", x.street(0, 3), 1);
        due.is("paved: far(3, 1)", x.far(3, 1), 3);
        due.is("pave(0, 3, 9)", x.pave(0, 3, 9), 1);
        due.is("pave(0, 3, 0)", x.pave(0, 3, 0), 9);
        due.is("pave(2, 3, 0)", x.pave(2, 3, 0), 4);
        due.is("cut off: far(2, 3)", x.far(2, 3), -9);
        due.is("pave(1, 1, 10)", x.pave(1, 1, 10), -1);
        due.is("pave(4, 0, 10)", x.pave(4, 0, 10), -1);
        due.is("pave(0, -1, 1)", x.pave(0, -1, 1), -1);
        due.is("pave(0, 1, 10)", x.pave(0, 1, 10), -2);
        due.is("pave(0, 1, -1)", x.pave(0, 1, -1), -2);
        due.is("refused: street(0, 1)", x.street(0, 1), 2);
        paveTakesArrivalBack();
    }

    private static void paveTakesArrivalBack() {
        PromiseWalk x = Towns.of("t25;b015");
        due.is("days(1)", x.days(1), 1);
        x.pave(0, 1, 6);
        due.is("a longer street: has arrived", x.ofFootman(0, 7), 0);
        due.is("days(1) again", x.days(1), 1);
        due.is("it walked on", x.ofFootman(0, 5), 10);
        x.pave(0, 1, 0);
        due.is("no street: has arrived", x.ofFootman(0, 7), 0);
        due.is("days(2) nowhere", x.days(2), 0);
        due.is("it walks each day", x.ofFootman(0, 5), 20);
    }

    private static void far() {
        PromiseWalk x = Towns.of(Towns.FOUR);
        int[][] want = {{0, 2, 5, 9}, {2, 0, 3, 7}, {5, 3, 0, 4}, {9, 7, 4, 0}};
        for (int a = 0; a < 4; a++) {
            for (int b = 0; b < 4; b++) {
                due.is("far(" + a + ", " + b + ")", x.far(a, b), want[a][b]);
            }
        }
        due.is("far(0, 4)", x.far(0, 4), -1);
        due.is("far(-1, 0)", x.far(-1, 0), -1);
        PromiseWalk torn = Towns.of(Towns.TORN);
        due.is("torn: far(0, 5)", torn.far(0, 5), -9);
        due.is("torn: far(5, 5)", torn.far(5, 5), 0);
        PromiseWalk row = Towns.of("t6900009000900990;b051");
        due.is("round about", row.far(0, 5), 36);
    }
}
