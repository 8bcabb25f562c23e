/** Promises 7 to 11: DAYS, who SITS and RISES, words that are GIVEN, SEASONS. */
public final class DaysTest {
    private static final int SIT = 0, RISE = 1, DAYS = 2;
    private static final Due due = new Due("DaysTest");

    public static void main(String[] args) {
        days();
        daysOfNever();
        sitAndRise();
        give();
        giveRefusals();
        seasonAnswers();
        seasonFromHowAllIs();
        seasonArrivals();
        seasonOfSix();
        seasonOfSomeCells();
        seasonFirstWrong();
        seasonRefusals();
        seasonFaults();
        seasonPairs();
        due.finish();
    }

    private static void days() {
        PromiseWalk x = Towns.of(Towns.FOUR);
        due.is("days(1)", x.days(1), 0);
        due.is("days(1)", x.days(1), 1);
        due.is("days(5)", x.days(5), 2);
        due.is("many(2)", x.many(2), 7);
        due.is("who arrived stands", x.ofFootman(0, 5), 6);
        due.is("who was there never walked", x.ofFootman(2, 5), 0);
        due.is("days(99)", x.days(99), 0);
        due.is("days(0)", x.days(0), -2);
        due.is("days(100)", x.days(100), -2);
        due.is("many(2)", x.many(2), 106);
        due.is("without a town: days(0)", new PromiseWalk().days(0), -2);
        due.is("without a town: days(1)", new PromiseWalk().days(1), -3);
    }

    private static void daysOfNever() {
        PromiseWalk x = Towns.of(Towns.TORN);
        due.is("torn: days(99)", x.days(99), 1);
        due.is("it never arrives and goes on", x.ofFootman(1, 5), 99);
        due.is("it has not arrived", x.ofFootman(1, 7), 0);
        x.sit(1);
        x.days(1);
        due.is("it sits", x.ofFootman(1, 5), 99);
    }

    private static void sitAndRise() {
        PromiseWalk x = Towns.of(Towns.FOUR);
        due.is("sit(1)", x.sit(1), 1);
        due.is("sit(2), who has arrived", x.sit(2), 2);
        due.is("sit(1) again", x.sit(1), -3);
        due.is("sit(4)", x.sit(4), -1);
        due.is("sit(-1)", x.sit(-1), -1);
        x.days(2);
        due.is("who sits does not walk", x.ofFootman(1, 5), 0);
        due.is("rise(0)", x.rise(0), -3);
        due.is("rise(1)", x.rise(1), 1);
        due.is("rise(1) again", x.rise(1), -3);
        due.is("rise(4)", x.rise(4), -1);
        x.days(1);
        due.is("who rose walks", x.ofFootman(1, 5), 2);
        due.is("rise(2)", x.rise(2), 0);
    }

    private static void give() {
        PromiseWalk x = Towns.of(Towns.FOUR);
        x.days(1);
        x.sit(0);
        due.is("give(2, 1, 3, 9)", x.give(2, 1, 3, 9), 4);
        int[] want = {2, 1, 3, 9, 5, 0, 0, 0};
        for (int what = 0; what <= 7; what++) {
            due.is("given: ofFootman(4, " + what + ")", x.ofFootman(4, what), want[what]);
        }
        due.is("give(0, 3, 3, 1)", x.give(0, 3, 3, 1), 5);
        due.is("given: has arrived", x.ofFootman(5, 7), 1);
        due.is("a seventh", x.give(0, 0, 0, 1), -4);
        due.is("many(0)", x.many(0), 6);
    }

    private static void giveRefusals() {
        PromiseWalk x = Towns.of("t25;b011");
        due.is("kind 3", x.give(3, 0, 0, 1), -2);
        due.is("kind -1, from 2", x.give(-1, 2, 0, 1), -2);
        due.is("calves 0, to 2", x.give(0, 0, 2, 0), -2);
        due.is("calves 10", x.give(0, 0, 0, 10), -2);
        due.is("from 2", x.give(0, 2, 0, 1), -1);
        due.is("to -1", x.give(0, 0, -1, 1), -1);
        due.is("many(0)", x.many(0), 1);
        for (int k = 1; k < 6; k++) {
            due.is("footman " + k, x.give(1, 0, 1, k), k);
        }
        due.is("OUTSIDE ahead of FULL", x.give(3, 0, 0, 1), -2);
        due.is("UNKNOWN ahead of FULL", x.give(0, 0, 2, 1), -1);
        due.is("FULL", x.give(0, 0, 1, 1), -4);
        due.is("without a town: kind", new PromiseWalk().give(3, 0, 0, 1), -2);
        due.is("without a town: from", new PromiseWalk().give(0, 0, 0, 1), -1);
    }

    private static int season(PromiseWalk x, int what, int... pairs) {
        Towns.row(x, 2, Towns.SHORTS, pairs);
        return x.season(2, Towns.SHORTS, 0, pairs.length / 2, what);
    }

    private static void seasonAnswers() {
        PromiseWalk x = Towns.of(Towns.FOUR);
        int[] pairs = {0, SIT, 2, DAYS, 3, SIT, 0, RISE, 0, DAYS, 2, DAYS};
        due.is("arrived", season(x, 0, pairs), 2);
        due.is("first wrong", season(x, 1, pairs), -9);
        due.is("who sits", season(x, 2, pairs), 8);
        due.is("walked together", season(x, 3, pairs), 6 + 8 + 0 + 2);
        due.is("all had arrived", season(x, 4, pairs), -9);
        int[] walked = {6, 8, 0, 2, -9, -9};
        for (int k = 0; k < 6; k++) {
            due.is("footman " + k + " walked", season(x, 10 + k, pairs), walked[k]);
        }
        due.is("nothing is changed: many(2)", x.many(2), 0);
        due.is("nothing is changed: walked", x.ofFootman(0, 5), 0);
        due.is("nothing is changed: sits", x.ofFootman(3, 6), 0);
        due.is("nothing is changed: many(3)", x.many(3), 1);
    }

    private static void seasonFromHowAllIs() {
        PromiseWalk x = Towns.of(Towns.FOUR);
        x.sit(3);
        x.days(1);
        due.is("who sits now can't sit down", season(x, 1, 3, SIT), 0);
        due.is("who sits now can rise", season(x, 2, 3, RISE), 0);
        due.is("walked in it, not ahead of it", season(x, 3, 1, DAYS), 3 + 2);
        due.is("walked then, ahead of it too", season(x, 11, 1, DAYS), 4);
        due.is("no pairs: who sits", season(x, 2), 8);
        due.is("no pairs: walked", season(x, 10), 3);
        x.give(0, 0, 0, 1);
        due.is("a given one sits", season(x, 2, 4, SIT), 24);
        x.pave(0, 2, 3);
        due.is("streets as they are now", season(x, 0, 0, DAYS), 3);
    }

    private static void seasonArrivals() {
        PromiseWalk x = Towns.of("t25;b011;b012");
        due.is("not in it", season(x, 4, 4, DAYS), -9);
        due.is("on the fifth of its days", season(x, 4, 2, DAYS, 9, DAYS, 9, DAYS), 5);
        due.is("one sat for a while", season(x, 4, 0, SIT, 3, DAYS, 0, RISE, 9, DAYS), 8);
        x.days(2);
        due.is("days from now", season(x, 4, 9, DAYS), 3);
        x.days(3);
        due.is("ahead of it", season(x, 4, 9, DAYS), 0);
        due.is("ahead of it, no pairs", season(x, 4), 0);
        x.pave(0, 1, 6);
        due.is("no more ahead of it", season(x, 4, 9, DAYS), 1);
    }

    private static void seasonOfSix() {
        PromiseWalk x = Towns.of("t29;b011;b012;b013;b014;b015");
        due.is("footman 5 is given", x.give(0, 0, 1, 6), 5);
        due.is("six: arrived", season(x, 0, 2, DAYS), 2);
        due.is("six: who sits", season(x, 2, 5, SIT, 0, SIT, 2, DAYS), 33);
        due.is("six: walked together", season(x, 3, 0, SIT, 1, DAYS), 20);
        due.is("six: footman 5 walked", season(x, 15, 1, DAYS), 6);
        due.is("six: all had arrived", season(x, 4, 9, DAYS), 9);
        due.is("six sit: sit(5)", x.sit(5), 1);
        due.is("six: days(9)", x.days(9), 5);
    }

    private static void seasonOfSomeCells() {
        PromiseWalk x = Towns.of(Towns.FOUR);
        Towns.row(x, 1, Towns.BYTES, 99, 99, 0, SIT, 1, SIT, 99, 99);
        due.is("two pairs of many cells", x.season(1, 0, 2, 2, 2), 3);
        due.is("the second of them", x.season(1, 0, 4, 1, 2), 2);
        due.is("a pair behind them is no act", x.season(1, 0, 4, 2, 2), -2);
        due.is("a pair ahead of them is no act", x.season(1, 0, 0, 2, 2), -2);
    }

    private static void seasonFirstWrong() {
        PromiseWalk x = Towns.of(Towns.FOUR);
        int[] pairs = {0, SIT, 9, DAYS, 0, SIT, 1, RISE};
        due.is("first wrong", season(x, 1, pairs), 2);
        for (int what : new int[] {0, 2, 3, 4, 10, 15}) {
            due.is("wrong: what " + what, season(x, what, pairs), -102);
        }
        due.is("rises, does not sit", season(x, 1, 0, RISE), 0);
        due.is("rises, does not sit: what 0", season(x, 0, 0, RISE), -100);
        due.is("a -100 is no fault", x.fault(), 0);
        int[] most = new int[40];
        for (int pair = 0; pair < 20; pair++) {
            most[2 * pair + 1] = pair % 2 == 0 ? SIT : RISE;
        }
        due.is("twenty pairs", season(x, 1, most), -9);
        most[39] = SIT;
        due.is("twenty pairs, the last wrong", season(x, 2, most), -119);
    }

    private static void seasonRefusals() {
        PromiseWalk x = Towns.of(Towns.FOUR);
        Towns.row(x, 2, Towns.INTS, 9, DAYS, 0, SIT);
        due.is("sheet 4", x.season(4, 3, -1, 21, 5), -1);
        due.is("sheet -1", x.season(-1, 2, 0, 1, 0), -1);
        due.is("lane 3", x.season(2, 3, 0, 1, 0), -2);
        due.is("lane -1, of nothing", x.season(3, -1, 0, 1, 0), -2);
        due.is("n -1", x.season(2, 2, 0, -1, 0), -2);
        due.is("n 21", x.season(2, 2, 0, 21, 0), -2);
        for (int what : new int[] {-1, 5, 9, 16}) {
            due.is("what " + what, x.season(2, 2, 0, 1, what), -2);
        }
        x.season(2, 1, 0, 1, 0);
        due.is("CAST: fault()", x.fault(), 2);
        due.is("OUTSIDE: what", x.season(2, 1, 0, 1, 5), -2);
        due.is("refused: fault()", x.fault(), 0);
        PromiseWalk none = new PromiseWalk();
        due.is("without a town: what", none.season(0, 0, 0, 0, 5), -2);
        due.is("without a town", none.season(0, 0, -1, 1, 0), -3);
    }

    private static void seasonFaults() {
        PromiseWalk x = Towns.of(Towns.FOUR);
        Towns.row(x, 2, Towns.INTS, 9, DAYS, 0, SIT, 7);
        due.is("CAST", x.season(2, 0, -1, 1, 0), -12);
        due.is("CAST: fault()", x.fault(), 2);
        due.is("NULL", x.season(3, 0, -1, 1, 0), -11);
        due.is("NULL: fault()", x.fault(), 1);
        due.is("INDEX: i below 0", x.season(2, 2, -1, 0, 0), -13);
        due.is("INDEX: fault()", x.fault(), 3);
        due.is("INDEX: i beyond, no pairs", x.season(2, 2, 6, 0, 0), -13);
        due.is("i at the end, no pairs", x.season(2, 2, 5, 0, 0), 1);
        due.is("no fault: fault()", x.fault(), 0);
        due.is("INDEX: half a pair is there", x.season(2, 2, 4, 1, 0), -13);
        due.is("INDEX ahead of pairs", x.season(2, 2, 1, 20, 0), -13);
        due.is("INDEX: of a very great i", x.season(2, 2, Integer.MAX_VALUE, 20, 0), -13);
    }

    private static void seasonPairs() {
        PromiseWalk x = Towns.of(Towns.FOUR);
        due.is("act 3", season(x, 0, 0, 3), -2);
        due.is("act -1", season(x, 0, 0, -1), -2);
        due.is("act 3 of no footman", season(x, 0, 4, 3), -2);
        due.is("ten days", season(x, 0, 10, DAYS), -2);
        due.is("days below 0", season(x, 0, -1, DAYS), -2);
        due.is("no days", season(x, 0, 0, DAYS), 1);
        due.is("nine days", season(x, 0, 9, DAYS), 4);
        due.is("no footman sits down", season(x, 1, 4, SIT), -1);
        due.is("no footman rises", season(x, 1, -1, RISE), -1);
        due.is("pair by pair: UNKNOWN first", season(x, 0, 4, SIT, 0, 3), -1);
        due.is("pair by pair: OUTSIDE first", season(x, 0, 0, 3, 4, SIT), -2);
        due.is("all pairs ahead of any act", season(x, 1, 0, RISE, 0, 3), -2);
        due.is("refused: fault()", x.fault(), 0);
    }
}
