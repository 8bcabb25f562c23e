/** "Terms", ==== 2, and promises 7 to 11, sentence by sentence. */
public final class DaysEdgesTest {
    private static final int SIT = 0, RISE = 1, DAYS = 2;
    private static final int[] ALL_WHATS = {0, 1, 2, 3, 4, 10, 11, 12, 13, 14, 15};
    private static final Due due = new Due("DaysEdgesTest");

    public static void main(String[] args) {
        due.each(
            DaysEdgesTest::daysAtBothEnds,
            DaysEdgesTest::daysAreCounted,
            DaysEdgesTest::daysTellWhoArrivedInThem,
            DaysEdgesTest::whoSitsDoesNotWalk,
            DaysEdgesTest::whoHasArrivedDoesNotWalk,
            DaysEdgesTest::whoNeverArrivesGoesOn,
            DaysEdgesTest::whoWalksPastHasArrived,
            DaysEdgesTest::sitsAndIsToldToSit,
            DaysEdgesTest::doesNotSitAndIsToldToRise,
            DaysEdgesTest::howManySit,
            DaysEdgesTest::whoHasArrivedMaySit,
            DaysEdgesTest::sixFootmen,
            DaysEdgesTest::givenSetsOffAnew,
            DaysEdgesTest::givenIsInside,
            DaysEdgesTest::streetTakenAway,
            DaysEdgesTest::streetLaidAgain,
            DaysEdgesTest::seasonOfNoPair,
            DaysEdgesTest::seasonOfTwentyPairs,
            DaysEdgesTest::firstWrongAtTheFirstPair,
            DaysEdgesTest::firstWrongAtTheLastPair,
            DaysEdgesTest::firstWrongForEachWhat,
            DaysEdgesTest::seasonChangesNothing,
            DaysEdgesTest::seasonFromHowAllIsNow,
            DaysEdgesTest::seasonFromWhereTheyGo,
            DaysEdgesTest::noDaysAndNineDays,
            DaysEdgesTest::seasonWalked,
            DaysEdgesTest::seasonAllArrivedFirst,
            DaysEdgesTest::seasonOfNoSuchFootman,
            DaysEdgesTest::seasonOfEachFootman,
            DaysEdgesTest::seasonOfEachLane);
        due.finish();
    }

    private static int season(PromiseWalk x, int what, int... pairs) {
        Towns.row(x, 2, Towns.INTS, pairs);
        return x.season(2, Towns.INTS, 0, pairs.length / 2, what);
    }

    private static void daysAtBothEnds() {
        due.sentence("n DAYS (1 .. 99) go by");
        PromiseWalk x = Towns.of("t20;b012");
        due.is("days(1)", x.days(1), 0);
        due.is("WALKED behind 1", x.ofFootman(0, 5), 2);
        due.is("days(99)", x.days(99), 0);
        due.is("WALKED behind 100", x.ofFootman(0, 5), 200);
        due.is("days(0)", x.days(0), -2);
        due.is("days(100)", x.days(100), -2);
        due.is("days(-1)", x.days(-1), -2);
        due.is("WALKED still", x.ofFootman(0, 5), 200);
        due.is("no TOWN: days(1)", new PromiseWalk().days(1), -3);
        due.is("no TOWN: days(99)", new PromiseWalk().days(99), -3);
        due.is("no TOWN: days(100)", new PromiseWalk().days(100), -2);
    }

    private static void daysAreCounted() {
        due.sentence("which DAY it is");
        PromiseWalk x = Towns.of(Towns.FOUR);
        int day = 0;
        for (int n : new int[] {1, 99, 2, 50}) {
            x.days(n);
            day += n;
            due.is("many(2) behind " + n + " more", x.many(2), day);
        }
        x.days(100);
        due.is("a refused one is no DAY", x.many(2), day);
    }

    private static void daysTellWhoArrivedInThem() {
        due.sentence("how many ARRIVED in them");
        PromiseWalk x = Towns.of("t29;b001;b019;b018;b013;b011");
        due.is("the first DAY", x.days(1), 1);
        due.is("the second", x.days(1), 1);
        due.is("the third", x.days(1), 1);
        due.is("the next five", x.days(5), 0);
        due.is("the ninth", x.days(1), 1);
        due.is("none is left", x.days(99), 0);
        due.is("five have", x.many(3), 5);
        due.is("all in one", Towns.of("t29;b001;b019;b018;b013;b011").days(9), 4);
        x.pave(0, 1, 0);
        due.is("none, when they can't", x.days(9), 0);
        x.pave(0, 1, 9);
        due.is("who were there ahead of them do not ARRIVE in them", x.days(1), 0);
    }

    private static void whoSitsDoesNotWalk() {
        due.sentence("who does not SIT has WALKED by PACE more");
        PromiseWalk x = Towns.of("t29;b011;m011");
        x.sit(0);
        due.is("days(3)", x.days(3), 0);
        due.is("who SITS", x.ofFootman(0, 5), 0);
        due.is("who does not", x.ofFootman(1, 5), 6);
        x.rise(0);
        x.days(1);
        due.is("who RISES", x.ofFootman(0, 5), 1);
    }

    private static void whoHasArrivedDoesNotWalk() {
        due.sentence("who has not ARRIVED has WALKED by PACE more");
        PromiseWalk x = Towns.of("t25;b013;b009");
        x.days(1);
        due.is("on the way", x.ofFootman(0, 5), 3);
        x.days(1);
        due.is("it ARRIVES by a whole PACE", x.ofFootman(0, 5), 6);
        x.days(99);
        due.is("it stays", x.ofFootman(0, 5), 6);
        due.is("who goes nowhere stays", x.ofFootman(1, 5), 0);
    }

    private static void whoNeverArrivesGoesOn() {
        due.sentence("if it is NONE to go there, he never has, and goes on each DAY");
        PromiseWalk x = Towns.of("t3900;m029");
        for (int day = 1; day <= 5; day++) {
            due.is("days(99)", x.days(99), 0);
            due.is("WALKED", x.ofFootman(0, 5), 990 * day);
            due.is("ARRIVED", x.ofFootman(0, 7), 0);
        }
        x.sit(0);
        x.days(1);
        due.is("but not, if it SITS", x.ofFootman(0, 5), 4950);
    }

    private static void whoWalksPastHasArrived() {
        due.sentence("a DAY behind ARRIVING nobody walks on, though a STREET becomes longer by less than he is past");
        PromiseWalk x = Towns.of("t27;b015");
        x.days(2);
        x.pave(0, 1, 9);
        due.is("3 past, 2 longer", x.days(1), 0);
        due.is("WALKED", x.ofFootman(0, 5), 10);
        due.is("ARRIVED", x.ofFootman(0, 7), 1);
    }

    private static void sitsAndIsToldToSit() {
        due.sentence("a FOOTMAN SITS down (it does not yet)");
        PromiseWalk x = Towns.of(Towns.FOUR);
        for (int k = 0; k < 4; k++) {
            due.is("sit(" + k + ")", x.sit(k), k + 1);
            due.is("sit(" + k + ") again", x.sit(k), -3);
            due.is("it SITS", x.ofFootman(k, 6), 1);
        }
    }

    private static void doesNotSitAndIsToldToRise() {
        due.sentence("a FOOTMAN RISES (it SITS)");
        PromiseWalk x = Towns.of(Towns.FOUR);
        for (int k = 0; k < 4; k++) {
            due.is("rise(" + k + ")", x.rise(k), -3);
            x.sit(k);
        }
        for (int k = 0; k < 4; k++) {
            due.is("rise(" + k + "), who SITS", x.rise(k), 3 - k);
            due.is("rise(" + k + ") again", x.rise(k), -3);
            due.is("it does not SIT", x.ofFootman(k, 6), 0);
        }
    }

    private static void howManySit() {
        due.sentence("how many SIT");
        PromiseWalk x = Towns.full();
        due.is("two SIT: sit(5)", x.sit(5), 3);
        due.is("sit(0)", x.sit(0), 4);
        due.is("sit(4)", x.sit(4), 5);
        due.is("sit(3)", x.sit(3), 6);
        due.is("rise(0)", x.rise(0), 5);
        due.is("rise(5)", x.rise(5), 4);
    }

    private static void whoHasArrivedMaySit() {
        due.sentence("who has ARRIVED SITS down and RISES like others");
        PromiseWalk x = Towns.of("t29;b001");
        due.is("sit", x.sit(0), 1);
        due.is("it has ARRIVED", x.ofFootman(0, 7), 1);
        due.is("season", season(x, 0), 1);
        due.is("rise", x.rise(0), 0);
    }

    private static void sixFootmen() {
        due.sentence("another FOOTMAN (the last one) sets off; FULL: there are six");
        for (int told = 1; told <= 5; told++) {
            PromiseWalk x = Towns.of("t29" + ";b011".repeat(told));
            for (int k = told; k < 6; k++) {
                due.is(told + " told: give", x.give(k % 3, 0, 1, k), k);
                due.is("the last one", x.ofFootman(k, 3), k);
                due.is("many(0)", x.many(0), k + 1);
            }
            due.is(told + " told: a seventh", x.give(0, 0, 1, 1), -4);
            due.is("many(0)", x.many(0), 6);
            due.is("the sixth is as it was", x.ofFootman(5, 3), 5);
            due.is("there is no seventh", x.ofFootman(6, 0), -1);
            due.is("six go", x.days(9), 6);
        }
    }

    private static void givenSetsOffAnew() {
        due.sentence("a FOOTMAN that is given has WALKED 0 and does not SIT, whoever stood there before");
        PromiseWalk x = Towns.full();
        x.sit(5);
        x.days(3);
        x.town(0, Towns.BYTES, 0, 28);
        for (int k = 4; k < 6; k++) {
            due.is("give", x.give(1, 3, 0, 2), k);
            int[] want = {1, 3, 0, 2, 3, 0, 0, 0};
            for (int what = 0; what <= 7; what++) {
                due.is("ofFootman(" + k + ", " + what + ")", x.ofFootman(k, what), want[what]);
            }
        }
        due.is("its READINGS are its own", x.calves(5), 1022);
        due.is("it SITS down", x.sit(5), 1);
    }

    private static void givenIsInside() {
        due.sentence("give: kind (0 .. 2), calves (1 .. 9), from, to");
        for (int kind = 0; kind <= 2; kind++) {
            for (int calves : new int[] {1, 9}) {
                PromiseWalk x = Towns.of(Towns.FOUR);
                due.is("give(" + kind + ", 3, 0, " + calves + ")", x.give(kind, 3, 0, calves), 4);
                due.is("kind", x.ofFootman(4, 0), kind);
                due.is("CALVES", x.ofFootman(4, 3), calves);
                due.is("FROM = TO", x.give(kind, 3, 3, calves), 5);
                due.is("it has ARRIVED", x.ofFootman(5, 7), 1);
            }
        }
        PromiseWalk x = Towns.of(Towns.FOUR);
        due.is("kind 3", x.give(3, 0, 0, 1), -2);
        due.is("kind -1", x.give(-1, 0, 0, 1), -2);
        due.is("calves 0", x.give(0, 0, 0, 0), -2);
        due.is("calves 10", x.give(0, 0, 0, 10), -2);
        due.is("from 4", x.give(0, 4, 0, 1), -1);
        due.is("to 4", x.give(0, 0, 4, 1), -1);
        due.is("nobody was given", x.many(0), 4);
    }

    private static void streetTakenAway() {
        due.sentence("a STREET is changed: one that is taken away while somebody goes by it");
        PromiseWalk x = Towns.of("t29;b014");
        x.days(1);
        due.is("kept, ahead of it", x.kept(0), 2);
        due.is("pave(0, 1, 0)", x.pave(0, 1, 0), 9);
        due.is("kept", x.kept(0), -9);
        due.is("WALKED stays", x.ofFootman(0, 5), 4);
        due.is("days(9)", x.days(9), 0);
        due.is("it goes on each DAY", x.ofFootman(0, 5), 40);
        due.is("it has not ARRIVED", x.ofFootman(0, 7), 0);
        due.is("far", x.far(0, 1), -9);
        due.is("way", x.way(0, 1, -1), -9);
        PromiseWalk other = Towns.of("t3599;b013");
        other.days(1);
        other.pave(1, 0, 0);
        due.is("another way is left: kept", other.kept(0), 5);
        due.is("it ARRIVES by that", other.days(5), 1);
        due.is("it has WALKED", other.ofFootman(0, 5), 18);
    }

    private static void streetLaidAgain() {
        due.sentence("a STREET that is laid again: who has WALKED enough has ARRIVED, ahead of the next DAY");
        PromiseWalk x = Towns.of("t20;b013");
        x.days(3);
        x.pave(0, 1, 9);
        due.is("ARRIVED", x.many(3), 1);
        due.is("kept", x.kept(0), 0);
        due.is("he does not ARRIVE in the next DAY", x.days(1), 0);
        due.is("he has not WALKED on", x.ofFootman(0, 5), 9);
        x.pave(0, 1, 0);
        due.is("taken away again", x.many(3), 0);
        due.is("he goes on", x.days(1), 0);
        due.is("he has WALKED", x.ofFootman(0, 5), 12);
    }

    private static void seasonOfNoPair() {
        due.sentence("a SEASON of no pair");
        PromiseWalk x = Towns.busy();
        int[] want = {3, -9, 6, 0, -9, 6, 0, 0, 3, 10, -9};
        for (int w = 0; w < ALL_WHATS.length; w++) {
            due.is("what " + ALL_WHATS[w], x.season(1, Towns.INTS, 0, 0, ALL_WHATS[w]), want[w]);
            due.is("at the end, what " + ALL_WHATS[w], x.season(1, Towns.INTS, 5, 0, ALL_WHATS[w]), want[w]);
            due.is("of a row of none, what " + ALL_WHATS[w], x.season(2, Towns.SHORTS, 0, 0, ALL_WHATS[w]), want[w]);
        }
        due.is("all had ARRIVED ahead of it", season(Towns.of("t20;b001"), 4), 0);
    }

    private static int[] twenty(int first, int act) {
        int[] pairs = new int[40];
        for (int pair = 0; pair < 20; pair++) {
            pairs[2 * pair] = first;
            pairs[2 * pair + 1] = act;
        }
        return pairs;
    }

    private static void seasonOfTwentyPairs() {
        due.sentence("a SEASON of twenty pairs, and not of one more");
        PromiseWalk x = Towns.of("t3900;b021;m011");
        int[] days = twenty(9, DAYS);
        due.is("180 DAYS: WALKED", season(x, 10, days), 180);
        due.is("180 DAYS: WALKED by the other", season(x, 11, days), 10);
        due.is("180 DAYS: all", season(x, 3, days), 190);
        due.is("180 DAYS: FIRST WRONG", season(x, 1, days), -9);
        int[] upAndDown = twenty(0, SIT);
        for (int pair = 1; pair < 20; pair += 2) {
            upAndDown[2 * pair + 1] = RISE;
        }
        due.is("up and down: FIRST WRONG", season(x, 1, upAndDown), -9);
        due.is("up and down: who SITS", season(x, 2, upAndDown), 0);
        due.is("nineteen of them: who SITS", x.season(2, Towns.INTS, 0, 19, 2), 1);
        int[] longest = new int[60];
        Towns.row(x, 3, Towns.INTS, longest);
        for (int pair = 0; pair < 30; pair++) {
            x.put(3, 2 * pair + 1, DAYS);
        }
        due.is("twenty at the end of sixty cells", x.season(3, Towns.INTS, 20, 20, 1), -9);
        due.is("one beyond", x.season(3, Towns.INTS, 21, 20, 1), -13);
        due.is("twenty-one", x.season(3, Towns.INTS, 0, 21, 1), -2);
        due.is("-1", x.season(3, Towns.INTS, 0, -1, 1), -2);
    }

    private static void firstWrongAtTheFirstPair() {
        due.sentence("FIRST WRONG at the first pair");
        PromiseWalk x = Towns.of(Towns.FOUR);
        due.is("RISES, does not SIT", season(x, 1, 0, RISE), 0);
        due.is("what 0", season(x, 0, 0, RISE), -100);
        due.is("of several", season(x, 1, 0, RISE, 1, RISE, 0, SIT, 0, SIT), 0);
        x.sit(3);
        due.is("SITS down, SITS", season(x, 1, 3, SIT), 0);
        due.is("what 2", season(x, 2, 3, SIT), -100);
        due.is("no fault", x.fault(), 0);
    }

    private static void firstWrongAtTheLastPair() {
        due.sentence("FIRST WRONG at the last pair");
        PromiseWalk x = Towns.of(Towns.FOUR);
        int[] pairs = twenty(9, DAYS);
        pairs[38] = 2;
        pairs[39] = RISE;
        due.is("the twentieth", season(x, 1, pairs), 19);
        due.is("the twentieth, what 3", season(x, 3, pairs), -119);
        due.is("but for it", x.season(2, Towns.INTS, 0, 19, 1), -9);
        due.is("it alone", x.season(2, Towns.INTS, 38, 1, 1), 0);
        due.is("it is told by its number, from i on", x.season(2, Towns.INTS, 30, 5, 1), 4);
        pairs[1] = SIT;
        pairs[0] = 2;
        due.is("it can be, if he SAT", season(x, 1, pairs), -9);
        due.is("SITS twice in a row", season(x, 1, 2, SIT, 1, SIT, 2, SIT), 2);
        due.is("RISES twice", season(x, 1, 2, SIT, 2, RISE, 2, RISE), 2);
    }

    private static void firstWrongForEachWhat() {
        due.sentence("of one with a FIRST WRONG: -100 less that (but what 1)");
        PromiseWalk x = Towns.of(Towns.FOUR);
        for (int what : ALL_WHATS) {
            due.is("at 0, what " + what, season(x, what, 1, RISE), what == 1 ? 0 : -100);
            due.is("at 3, what " + what, season(x, what, 9, DAYS, 1, SIT, 9, DAYS, 1, SIT, 0, SIT), what == 1 ? 3 : -103);
        }
        PromiseWalk there = Towns.of("t29;b001");
        for (int what : ALL_WHATS) {
            due.is("though all had ARRIVED, what " + what, season(there, what, 0, DAYS, 0, RISE), what == 1 ? 1 : -101);
        }
    }

    private static void seasonChangesNothing() {
        due.sentence("a SEASON told: nothing is changed");
        for (int what : ALL_WHATS) {
            PromiseWalk x = Towns.full();
            PromiseWalk other = Towns.full();
            int[] pairs = {0, SIT, 5, DAYS, 1, RISE, 9, DAYS, 3, SIT};
            Towns.row(x, 3, Towns.BYTES, pairs);
            Towns.row(other, 3, Towns.BYTES, pairs);
            due.holds("it can be", x.season(3, Towns.BYTES, 0, 5, what) > -10);
            due.same("what " + what, Seen.all(x), Seen.all(other));
        }
        for (int what : ALL_WHATS) {
            PromiseWalk x = Towns.full();
            PromiseWalk other = Towns.full();
            int[] pairs = {0, SIT, 5, DAYS, 0, SIT};
            Towns.row(x, 3, Towns.BYTES, pairs);
            Towns.row(other, 3, Towns.BYTES, pairs);
            due.is("it can't be", x.season(3, Towns.BYTES, 0, 3, what), what == 1 ? 2 : -102);
            due.same("with a FIRST WRONG, what " + what, Seen.all(x), Seen.all(other));
        }
    }

    private static void seasonFromHowAllIsNow() {
        due.sentence("from how all is now");
        PromiseWalk x = Towns.busy();
        due.is("who SITS: what 2", season(x, 2, 0, SIT), 7);
        due.is("who SITS can RISE", season(x, 2, 1, RISE), 4);
        due.is("who WALKED: what 10", season(x, 10, 9, DAYS), 6);
        due.is("who was GIVEN: what 14", season(x, 14, 9, DAYS), 10);
        due.is("asked again", season(x, 2), 6);
        x.rise(1);
        due.is("behind a rise", season(x, 2), 4);
        x.pave(2, 3, 0);
        due.is("behind a pave: ARRIVED", season(x, 0, 9, DAYS), 2);
        x.days(1);
        due.is("behind a DAY: WALKED by 3", season(x, 13), 4);
        x.town(0, Towns.BYTES, 0, 28);
        due.is("behind a town", season(x, 2), 0);
    }

    private static void seasonFromWhereTheyGo() {
        due.sentence("from how all is now: FROM where, TO where, by what PACE each goes");
        // It is 1 from 2 to 1, but 9 between all others.
        PromiseWalk x = Towns.of(Towns.text(3, '9', "12:1", ";b211;b021;m101;p122;b009"));
        int[] walked = {1, 9, 10, 1, 0};
        for (int k = 0; k < walked.length; k++) {
            due.is("FOOTMAN " + k, season(x, 10 + k, 9, DAYS), walked[k]);
        }
        due.is("ARRIVED behind a DAY", season(x, 0, 1, DAYS), 3);
        due.is("all had ARRIVED", season(x, 4, 9, DAYS), 9);
        Towns.write(x, 0, Towns.BYTES, "t3991;b101;b211");
        due.is("another TOWN", x.town(0, Towns.BYTES, 0, 15), 2);
        due.is("FOOTMAN 0 of it", season(x, 10, 9, DAYS), 9);
        due.is("FOOTMAN 1 of it", season(x, 11, 9, DAYS), 1);
        due.is("FOOTMAN 2 of it", season(x, 12, 9, DAYS), -9);
    }

    private static void noDaysAndNineDays() {
        due.sentence("0 .. 9 and 2: so many DAYS");
        PromiseWalk x = Towns.of("t20;b011");
        for (int n = 0; n <= 9; n++) {
            due.is(n + " DAYS", season(x, 10, n, DAYS), n);
        }
        due.is("10 DAYS", season(x, 10, 10, DAYS), -2);
        due.is("-1 DAYS", season(x, 10, -1, DAYS), -2);
        due.is("6 DAYS are of no FOOTMAN", season(x, 1, 6, DAYS), -9);
        due.is("who SITS does not walk in them", season(x, 10, 3, DAYS, 0, SIT, 4, DAYS, 0, RISE, 2, DAYS), 5);
    }

    private static void seasonWalked() {
        due.sentence("how much all have WALKED in it (3), how much FOOTMAN k has WALKED then (10 and k)");
        PromiseWalk x = Towns.of("t20;b012;m013");
        x.days(5);
        due.is("in it", season(x, 3, 2, DAYS), 12);
        due.is("FOOTMAN 0 then", season(x, 10, 2, DAYS), 14);
        due.is("FOOTMAN 1 then", season(x, 11, 2, DAYS), 28);
        due.is("in none", season(x, 3, 0, DAYS), 0);
        due.is("FOOTMAN 1, in none", season(x, 11, 0, DAYS), 20);
    }

    private static void seasonAllArrivedFirst() {
        due.sentence("behind how many of its DAYS all had ARRIVED first (4; 0: ahead of it; NONE: not in it)");
        PromiseWalk x = Towns.of("t29;b013;b019");
        due.is("no DAYS", season(x, 4, 0, DAYS), -9);
        due.is("one too few", season(x, 4, 2, DAYS), -9);
        due.is("on the last one", season(x, 4, 3, DAYS), 3);
        due.is("DAYS behind it do not count", season(x, 4, 3, DAYS, 9, DAYS), 3);
        due.is("acts are no DAYS", season(x, 4, 1, DAYS, 1, SIT, 0, SIT, 0, RISE, 2, DAYS), 3);
        due.is("a sitter is waited for", season(x, 4, 0, SIT, 9, DAYS, 0, RISE, 9, DAYS), 12);
        x.days(2);
        due.is("of its DAYS, not of all", season(x, 4, 9, DAYS), 1);
        x.days(1);
        due.is("ahead of it", season(x, 4, 9, DAYS), 0);
        due.is("ahead of it, who SITS then too", season(x, 4, 0, SIT, 9, DAYS), 0);
        x.pave(0, 1, 0);
        due.is("never", season(x, 4, 9, DAYS, 9, DAYS), -9);
    }

    private static void seasonOfNoSuchFootman() {
        due.sentence("NONE: there is no such one");
        for (int told = 1; told <= 5; told++) {
            PromiseWalk x = Towns.of("t29" + ";b011".repeat(told));
            for (int k = 0; k <= 5; k++) {
                due.is(told + " FOOTMEN, what " + (10 + k), season(x, 10 + k, 2, DAYS), k < told ? 2 : -9);
            }
        }
        due.is("six FOOTMEN, what 15", season(Towns.full(), 15, 2, DAYS), 6);
        due.is("what 16", season(Towns.full(), 16, 2, DAYS), -2);
        due.is("what 9", season(Towns.full(), 9, 2, DAYS), -2);
    }

    private static void seasonOfEachFootman() {
        due.sentence("a FOOTMAN and 0: it SITS down; and 1: it RISES");
        for (int k = 0; k < 6; k++) {
            PromiseWalk x = Towns.full();
            boolean sits = x.ofFootman(k, 6) == 1;
            due.is(k + " and 0", season(x, 2, k, SIT), sits ? -100 : 6 | 1 << k);
            due.is(k + " and 1", season(x, 2, k, RISE), sits ? 6 & ~(1 << k) : -100);
        }
        due.is("6 and 0", season(Towns.full(), 2, 6, SIT), -1);
        due.is("-1 and 1", season(Towns.full(), 2, -1, RISE), -1);
    }

    private static void seasonOfEachLane() {
        due.sentence("pairs, that are cells of a SHEET from i on (2 n), of any LANE");
        for (int lane = 0; lane <= 2; lane++) {
            PromiseWalk x = Towns.of(Towns.FOUR);
            Towns.row(x, 1, lane, 9, 9, 9, 1, SIT, 2, DAYS, 9, 9);
            for (int of = 0; of <= 2; of++) {
                due.is("lane " + lane + " as " + of, x.season(1, of, 3, 2, 13), of == lane ? 2 : -12);
            }
            due.is("who SITS", x.season(1, lane, 3, 1, 2), 2);
            due.is("a cell ahead: no FOOTMAN 9", x.season(1, lane, 2, 1, 2), -1);
            due.is("a pair behind", x.season(1, lane, 3, 3, 2), -2);
            x.put(1, 3, 257);
            due.is("what comes to a cell is cut", x.season(1, lane, 3, 1, 2), lane == 0 ? 2 : -1);
        }
    }
}
