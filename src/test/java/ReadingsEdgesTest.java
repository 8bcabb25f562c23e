/** "Terms", ==== 4, and promises 18 to 22, sentence by sentence. */
public final class ReadingsEdgesTest {
    private static final int ALL_CALVES = 1022, ALL_KINDS = 7;
    private static final Due due = new Due("ReadingsEdgesTest");

    public static void main(String[] args) {
        due.each(
            ReadingsEdgesTest::noReadings,
            ReadingsEdgesTest::eightReadings,
            ReadingsEdgesTest::numberedByHowManyAreAhead,
            ReadingsEdgesTest::noneTakenBack,
            ReadingsEdgesTest::allTakenBack,
            ReadingsEdgesTest::theLastOnesTakenBack,
            ReadingsEdgesTest::daysAtBothEnds,
            ReadingsEdgesTest::whatIsWalkedAtBothEnds,
            ReadingsEdgesTest::readingOfNoDays,
            ReadingsEdgesTest::asIfItNeverArrived,
            ReadingsEdgesTest::inPlaceOfWhatItIsAlone,
            ReadingsEdgesTest::allReadingsOfAllFootmen,
            ReadingsEdgesTest::calvesAtBothEnds,
            ReadingsEdgesTest::calvesOfEachKind,
            ReadingsEdgesTest::kindsOfEachCalves,
            ReadingsEdgesTest::nothingIsChanged,
            ReadingsEdgesTest::shareOfNone,
            ReadingsEdgesTest::shareOfAll,
            ReadingsEdgesTest::shareInLeastTerms,
            ReadingsEdgesTest::sharesOfAnyOtherCorner,
            ReadingsEdgesTest::setsOffAnew,
            ReadingsEdgesTest::daysOfOddsAtBothEnds,
            ReadingsEdgesTest::whichOfOdds);
        due.finish();
    }

    private static void noReadings() {
        due.sentence("no READINGS: CALVES 1 .. 9, KINDS 0 .. 2");
        PromiseWalk x = Towns.of(Towns.FOUR);
        x.give(1, 0, 0, 9);
        x.give(2, 0, 0, 1);
        for (int k = 0; k < 6; k++) {
            due.is("calves(" + k + ")", x.calves(k), ALL_CALVES);
            due.is("kinds(" + k + ")", x.kinds(k), ALL_KINDS);
        }
        due.is("many(4)", x.many(4), 0);
    }

    private static void eightReadings() {
        due.sentence("READINGS, 8 at most");
        PromiseWalk x = Towns.of("t29;b013");
        for (int number = 0; number < 8; number++) {
            due.is("reading", x.reading(0, number, 3 * number), number);
            due.is("many(4)", x.many(4), number + 1);
        }
        due.is("a ninth", x.reading(0, 1, 9), -4);
        due.is("many(4)", x.many(4), 8);
        due.is("the ninth counts for nothing", x.calves(0), 8);
        due.is("back(1)", x.back(1), 7);
        due.is("the eighth again", x.reading(0, 1, 9), 7);
        due.is("the eighth counts", x.calves(0), 0);
        due.is("a ninth again", x.reading(0, 0, 0), -4);
    }

    private static void numberedByHowManyAreAhead() {
        due.sentence("each numbered by how many there are ahead of it (the first one 0)");
        PromiseWalk x = Towns.of(Towns.FOUR);
        due.is("the first one", x.reading(3, 0, 0), 0);
        due.is("the next", x.reading(0, 0, 0), 1);
        x.back(1);
        due.is("in its place", x.reading(1, 0, 0), 1);
        x.back(2);
        due.is("the first one again", x.reading(1, 0, 0), 0);
    }

    private static void noneTakenBack() {
        due.sentence("the last k READINGS (0 .. as many as there are) are taken back: 0");
        PromiseWalk x = Towns.of("t29;b013");
        due.is("of none", x.back(0), 0);
        for (int number = 0; number < 8; number++) {
            x.reading(0, 1, 3);
            due.is("of " + (number + 1), x.back(0), number + 1);
        }
        due.is("they are left", x.calves(0), 8);
        due.is("no TOWN", new PromiseWalk().back(0), 0);
    }

    private static void allTakenBack() {
        due.sentence("all READINGS are taken back, and not one more");
        for (int many = 0; many <= 8; many++) {
            PromiseWalk x = Towns.of("t29;b013");
            for (int number = 0; number < many; number++) {
                x.reading(0, 2, 4);
            }
            due.is("one more than " + many, x.back(many + 1), -2);
            due.is("they are left", x.many(4), many);
            due.is("-1", x.back(-1), -2);
            due.is("all " + many, x.back(many), 0);
            due.is("many(4)", x.many(4), 0);
            due.is("calves", x.calves(0), ALL_CALVES);
            due.is("kinds", x.kinds(0), ALL_KINDS);
            due.is("one more than none", x.back(1), -2);
        }
        due.is("no TOWN", new PromiseWalk().back(1), -2);
    }

    private static void theLastOnesTakenBack() {
        due.sentence("the last READINGS, not the first");
        PromiseWalk x = Towns.of("t29;b013");
        x.reading(0, 1, 3);
        x.reading(0, 1, 4);
        x.reading(0, 1, 5);
        due.is("three that can't be", x.calves(0), 0);
        due.is("back(2)", x.back(2), 1);
        due.is("the first is left", x.calves(0), 8);
        x.reading(0, 2, 6);
        due.is("back(1)", x.back(1), 1);
        due.is("the first is left still", x.calves(0), 8);
    }

    private static void daysAtBothEnds() {
        due.sentence("reading: days (0 .. 99)");
        PromiseWalk x = Towns.of("t29;b013");
        due.is("0", x.reading(0, 0, 0), 0);
        due.is("99", x.reading(0, 99, 297), 1);
        due.is("it counts", x.calves(0), 8);
        due.is("100", x.reading(0, 100, 300), -2);
        due.is("-1", x.reading(0, -1, 0), -2);
        due.is("many(4)", x.many(4), 2);
    }

    private static void whatIsWalkedAtBothEnds() {
        due.sentence("reading: v (0 .. 999)");
        PromiseWalk x = Towns.of("t29;m018");
        due.is("999", x.reading(0, 99, 999), 0);
        due.is("nobody WALKS as much", x.calves(0), 0);
        x.back(1);
        due.is("990", x.reading(0, 99, 990), 0);
        due.is("a MAN of 9 does", x.calves(0), 512);
        x.back(1);
        due.is("0", x.reading(0, 1, 0), 0);
        due.is("nobody WALKS nothing", x.calves(0), 0);
        x.back(1);
        due.is("1000", x.reading(0, 99, 1000), -2);
        due.is("-1", x.reading(0, 1, -1), -2);
        due.is("999 in a day that is none", x.reading(0, 111, 999), -2);
        due.is("999 in 37 DAYS", x.reading(0, 37, 999), 0);
        due.is("27 a DAY is nobody's", x.calves(0), 0);
    }

    private static void readingOfNoDays() {
        due.sentence("in 0 DAYS a FOOTMAN WALKS 0");
        PromiseWalk x = Towns.of("t29;b013;p014");
        x.reading(0, 0, 0);
        x.reading(1, 0, 0);
        for (int k = 0; k < 2; k++) {
            due.is("0 in 0: calves(" + k + ")", x.calves(k), ALL_CALVES);
            due.is("0 in 0: kinds(" + k + ")", x.kinds(k), ALL_KINDS);
        }
        x.reading(0, 0, 1);
        for (int k = 0; k < 2; k++) {
            due.is("1 in 0: calves(" + k + ")", x.calves(k), 0);
            due.is("1 in 0: kinds(" + k + ")", x.kinds(k), 0);
        }
    }

    private static void asIfItNeverArrived() {
        due.sentence("in so many DAYS a FOOTMAN WALKS v (as if it never ARRIVED)");
        PromiseWalk x = Towns.of("t3110;b013;b002;b024");
        x.reading(0, 99, 297);
        x.reading(1, 50, 100);
        x.reading(2, 7, 28);
        due.is("past a STREET of 1", x.calves(0), 8);
        due.is("who goes nowhere", x.calves(1), 4);
        due.is("who is on his way", x.calves(2), 16);
        x.sit(0);
        x.sit(1);
        x.days(9);
        due.is("who SITS and has ARRIVED", x.calves(0), 8);
        due.is("who SITS", x.calves(1), 4);
        x.pave(0, 2, 0);
        due.is("whom no STREET leads there", x.calves(2), 16);
    }

    private static void inPlaceOfWhatItIsAlone() {
        due.sentence("in place of what it is alone: CALVES with its kind, KINDS with its CALVES");
        PromiseWalk x = Towns.of("t29;b013");
        x.reading(0, 2, 8);
        due.is("a BOY with 4", x.calves(0), 16);
        due.is("3 of a MAN", x.kinds(0), 2);
        x.back(1);
        x.reading(0, 3, 6);
        due.is("a BOY with 2", x.calves(0), 4);
        due.is("3 of a PAIR", x.kinds(0), 4);
        x.back(1);
        x.reading(0, 3, 21);
        due.is("a BOY with 7", x.calves(0), 128);
        due.is("3 of none", x.kinds(0), 0);
    }

    private static void allReadingsOfAllFootmen() {
        due.sentence("by which all READINGS are so: those of others, too, as those are");
        PromiseWalk x = Towns.of("t29;b013;m013;p013");
        for (int k = 0; k < 3; k++) {
            x.reading(k, 5, 5 * x.ofFootman(k, 4));
        }
        due.is("all are so: calves(0)", x.calves(0), 8);
        due.is("all are so: calves(1)", x.calves(1), 8);
        due.is("all are so: calves(2)", x.calves(2), 8 | 16);
        x.reading(1, 1, 5);
        for (int k = 0; k < 3; k++) {
            due.is("one is not: calves(" + k + ")", x.calves(k), 0);
            due.is("one is not: kinds(" + k + ")", x.kinds(k), 0);
        }
        x.back(4);
        x.reading(2, 1, 5);
        due.is("of the third alone: calves(0)", x.calves(0), 0);
        due.is("of the third alone: kinds(1)", x.kinds(1), 0);
        due.is("of the third alone: calves(2)", x.calves(2), 512);
        due.is("one is given", x.give(0, 0, 1, 7), 3);
        due.is("a READING of it", x.reading(3, 2, 14), 1);
        due.is("calves(3)", x.calves(3), 0);
        due.is("calves(2)", x.calves(2), 512);
    }

    private static void calvesAtBothEnds() {
        due.sentence("CALVES of a FOOTMAN: 1 .. 9");
        PromiseWalk x = Towns.of("t29;b015;m015;p015");
        int[][] want = {{0, 0, 0}, {2, 0, 2 | 4}, {4, 2, 8 | 16}, {256, 128, 0}, {512, 256, 0}, {0, 512, 0}, {0, 0, 0}};
        int[] paces = {0, 1, 2, 8, 9, 10, 11};
        for (int i = 0; i < paces.length; i++) {
            for (int k = 0; k < 3; k++) {
                x.reading(k, 1, paces[i]);
                due.is("calves(" + k + ") of PACE " + paces[i], x.calves(k), want[i][k]);
                x.back(1);
            }
        }
        x.reading(2, 1, 5);
        due.is("a PAIR of PACE 5", x.calves(2), 512);
    }

    private static void calvesOfEachKind() {
        due.sentence("CALVES by what a FOOTMAN of its kind WALKS");
        for (int kind = 0; kind <= 2; kind++) {
            for (int told = 1; told <= 9; told++) {
                PromiseWalk x = Towns.of("t29;" + "bmp".charAt(kind) + "01" + told);
                x.reading(0, 9, 9 * x.ofFootman(0, 4));
                int odd = told % 2 == 1 ? told : told - 1;
                int ofPairs = told == 9 ? 512 : 1 << odd | 1 << odd + 1;
                due.is("kind " + kind + ", CALVES " + told, x.calves(0), kind < 2 ? 1 << told : ofPairs);
            }
        }
    }

    private static void kindsOfEachCalves() {
        due.sentence("KINDS of a FOOTMAN: 0 .. 2");
        for (int kind = 0; kind <= 2; kind++) {
            for (int told = 1; told <= 9; told++) {
                PromiseWalk x = Towns.of("t29;" + "bmp".charAt(kind) + "01" + told);
                x.reading(0, 9, 9 * x.ofFootman(0, 4));
                due.is("kind " + kind + ", CALVES " + told, x.kinds(0), told == 1 && kind != 1 ? 1 | 4 : 1 << kind);
            }
        }
    }

    private static void nothingIsChanged() {
        due.sentence("calves, kinds, odds are asked: nothing is changed");
        PromiseWalk x = Towns.full();
        x.calves(0);
        x.kinds(0);
        x.odds(0, 1, 0);
        x.calves(5);
        x.kinds(5);
        x.odds(5, 99, 1);
        due.same("all", Seen.all(x), Seen.all(Towns.full()));
    }

    private static void shareIs(PromiseWalk x, int k, int n, int upper, int lower) {
        due.is("odds(" + k + ", " + n + ", 0)", x.odds(k, n, 0), upper);
        due.is("odds(" + k + ", " + n + ", 1)", x.odds(k, n, 1), lower);
    }

    private static void shareOfNone() {
        due.sentence("a share of 0 is 0 of 1");
        for (int corners = 2; corners <= 6; corners++) {
            PromiseWalk x = Towns.of(Towns.text(corners, '9', "", ";b001;b011"));
            shareIs(x, 0, 0, 0, 1);
            shareIs(x, 0, 8, 0, 1);
            shareIs(x, 1, 0, 0, 1);
            PromiseWalk alone = Towns.of(Towns.text(corners, '0', "", ";b009"));
            shareIs(alone, 0, 99, 0, 1);
        }
    }

    private static void shareOfAll() {
        due.sentence("a share of 1 is 1 of 1");
        for (int corners = 2; corners <= 6; corners++) {
            PromiseWalk x = Towns.of(Towns.text(corners, '9', "", ";b001;b011"));
            shareIs(x, 0, 9, 1, 1);
            shareIs(x, 1, 9, 1, 1);
            shareIs(x, 1, 99, 1, 1);
        }
    }

    private static void shareInLeastTerms() {
        due.sentence("shares are told as upper and lower number (above 0) in least terms");
        int[][][] want = {{}, {}, {{0, 1}, {1, 1}}, {{0, 1}, {1, 2}, {1, 1}}, {{0, 1}, {1, 3}, {2, 3}, {1, 1}},
            {{0, 1}, {1, 4}, {1, 2}, {3, 4}, {1, 1}}, {{0, 1}, {1, 5}, {2, 5}, {3, 5}, {4, 5}, {1, 1}}};
        for (int corners = 2; corners <= 6; corners++) {
            PromiseWalk x = Towns.of(Towns.text(corners, '0', "01:1 12:1 23:1 34:1 45:1", ";b001"));
            for (int n = 0; n < corners; n++) {
                shareIs(x, 0, n, want[corners][n][0], want[corners][n][1]);
            }
        }
    }

    private static void sharesOfAnyOtherCorner() {
        due.sentence("TO any other CORNER than that FROM which it goes, all alike");
        PromiseWalk x = Towns.of(Towns.text(4, '0', "01:1 02:2 03:3", ";b001;b031;b101;b301"));
        shareIs(x, 0, 1, 1, 3);
        shareIs(x, 1, 2, 2, 3);
        shareIs(x, 2, 1, 1, 3);
        shareIs(x, 2, 3, 2, 3);
        shareIs(x, 3, 3, 1, 3);
        shareIs(x, 3, 4, 2, 3);
        shareIs(x, 3, 5, 1, 1);
    }

    private static void setsOffAnew() {
        due.sentence("if it sets off anew: what it WALKED is nothing to it, and that it SITS");
        PromiseWalk x = Towns.of(Towns.text(3, '0', "01:4 12:4", ";m021"));
        shareIs(x, 0, 1, 0, 1);
        shareIs(x, 0, 2, 1, 2);
        shareIs(x, 0, 4, 1, 1);
        x.days(3);
        x.sit(0);
        shareIs(x, 0, 1, 0, 1);
        shareIs(x, 0, 2, 1, 2);
        shareIs(x, 0, 4, 1, 1);
        x.pave(1, 2, 0);
        shareIs(x, 0, 4, 1, 2);
    }

    private static void daysOfOddsAtBothEnds() {
        due.sentence("ODDS by n DAYS (0 .. 99)");
        PromiseWalk x = Towns.of("t29;b011");
        due.is("-1", x.odds(0, -1, 0), Long.MIN_VALUE);
        due.is("0", x.odds(0, 0, 0), 0);
        due.is("8", x.odds(0, 8, 0), 0);
        due.is("9", x.odds(0, 9, 0), 1);
        due.is("99", x.odds(0, 99, 0), 1);
        due.is("100", x.odds(0, 100, 0), Long.MIN_VALUE);
    }

    private static void whichOfOdds() {
        due.sentence("which 0 the upper, 1 the lower number");
        PromiseWalk x = Towns.of(Towns.text(6, '9', "01:1 02:1", ";b001"));
        due.is("which -1", x.odds(0, 1, -1), Long.MIN_VALUE);
        due.is("which 0", x.odds(0, 1, 0), 2);
        due.is("which 1", x.odds(0, 1, 1), 5);
        due.is("which 2", x.odds(0, 1, 2), Long.MIN_VALUE);
    }
}
