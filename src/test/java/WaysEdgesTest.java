/** "Terms", ==== 3, and promises 12 to 17, sentence by sentence. */
public final class WaysEdgesTest {
    /** As wide as a TOWN can be. */
    private static final String WIDE = Towns.text(6, '0', "01:9 12:9 23:9 34:9 45:9", ";b051;m051;p051;b501");
    /** 0 and 1 hang together, and 2 and 3. */
    private static final String TWO_PARTS = Towns.text(4, '0', "01:1 23:1", ";b011;b021;b231;b001");
    /** Five hang together, but CORNER 5 by none. */
    private static final String ONE_ALONE = Towns.text(6, '1', "05:0 15:0 25:0 35:0 45:0", ";b001");
    /** All hang by CORNER 5 alone. */
    private static final String STAR = Towns.text(6, '0', "05:1 15:2 25:3 35:4 45:5", ";b001");
    private static final Due due = new Due("WaysEdgesTest");

    public static void main(String[] args) {
        due.each(
            WaysEdgesTest::wayToItself,
            WaysEdgesTest::wayOfNone,
            WaysEdgesTest::wayAtItsEnds,
            WaysEdgesTest::wayOfTheLongestRow,
            WaysEdgesTest::severalWays,
            WaysEdgesTest::severalWaysOfOtherMany,
            WaysEdgesTest::roundByItsOwnCorners,
            WaysEdgesTest::roundThatCantBeGone,
            WaysEdgesTest::roundFarther,
            WaysEdgesTest::keptAlready,
            WaysEdgesTest::keptNever,
            WaysEdgesTest::keptAtTheFarthest,
            WaysEdgesTest::keptAsDaysGoBy,
            WaysEdgesTest::keptFromWhatIsWalked,
            WaysEdgesTest::severalMiddles,
            WaysEdgesTest::middleOfNone,
            WaysEdgesTest::middleIsTheFarthestOther,
            WaysEdgesTest::middleAtItsEnds,
            WaysEdgesTest::severalTrees,
            WaysEdgesTest::treeOfNone,
            WaysEdgesTest::treeIsTheLeast,
            WaysEdgesTest::treeAtItsEnds,
            WaysEdgesTest::severalRowsOfErrands,
            WaysEdgesTest::errandsAsOftenAsTheyGo,
            WaysEdgesTest::errandsToItself,
            WaysEdgesTest::errandsOfNone,
            WaysEdgesTest::errandsAllSetOffNow,
            WaysEdgesTest::errandsTheLastOneSoonest,
            WaysEdgesTest::errandsAskedAgain,
            WaysEdgesTest::errandsAtItsEnds);
        due.finish();
    }

    private static void wayIs(PromiseWalk x, int a, int b, int... corners) {
        String call = "way(" + a + ", " + b + ", ";
        due.is(call + "-1)", x.way(a, b, -1), corners.length == 0 ? -9 : corners.length);
        for (int k = 0; k <= 5; k++) {
            due.is(call + k + ")", x.way(a, b, k), k < corners.length ? corners[k] : -9);
        }
    }

    private static void wayToItself() {
        due.sentence("WAY: one CORNER alone, if they are one");
        for (String text : new String[] {Towns.FOUR, Towns.TORN, TWO_PARTS, WIDE}) {
            PromiseWalk x = Towns.of(text);
            for (int a = 0; a < x.many(1); a++) {
                wayIs(x, a, a, a);
            }
        }
    }

    private static void wayOfNone() {
        due.sentence("WAY, NONE: there is none");
        PromiseWalk x = Towns.of(TWO_PARTS);
        for (int a = 0; a < 2; a++) {
            for (int b = 2; b < 4; b++) {
                wayIs(x, a, b);
                wayIs(x, b, a);
            }
        }
        wayIs(x, 0, 1, 0, 1);
        wayIs(x, 3, 2, 3, 2);
    }

    private static void wayAtItsEnds() {
        due.sentence("way: k -1, 0 .. 5");
        PromiseWalk x = Towns.of(WIDE);
        due.is("k -2", x.way(0, 5, -2), -2);
        due.is("k -1", x.way(0, 5, -1), 6);
        due.is("k 0", x.way(0, 5, 0), 0);
        due.is("k 5", x.way(0, 5, 5), 5);
        due.is("k 6", x.way(0, 5, 6), -2);
        due.is("k 5 of five", x.way(0, 4, 5), -9);
        due.is("k 4 of five", x.way(0, 4, 4), 4);
        due.is("k 6 of none", Towns.of(TWO_PARTS).way(0, 3, 6), -2);
        due.is("k -2 to itself", x.way(3, 3, -2), -2);
    }

    private static void wayOfTheLongestRow() {
        due.sentence("WAY: CORNERS by which it goes the least FAR, these two, too");
        PromiseWalk x = Towns.of(WIDE);
        wayIs(x, 0, 5, 0, 1, 2, 3, 4, 5);
        wayIs(x, 5, 0, 5, 4, 3, 2, 1, 0);
        wayIs(x, 4, 2, 4, 3, 2);
        PromiseWalk mixed = Towns.of(Towns.text(6, '9', "04:1 24:1 25:1 15:1 13:1", ";b001"));
        wayIs(mixed, 0, 3, 0, 4, 2, 5, 1, 3);
        wayIs(mixed, 3, 0, 3, 1, 5, 2, 4, 0);
        due.is("one STREET as long as all of them", mixed.pave(0, 3, 5), 9);
        wayIs(mixed, 0, 3, 0, 3);
        wayIs(mixed, 3, 0, 3, 0);
        due.is("one longer", mixed.pave(0, 3, 6), 5);
        wayIs(mixed, 0, 3, 0, 4, 2, 5, 1, 3);
    }

    private static void severalWays() {
        due.sentence("WAY: of several rows the first");
        PromiseWalk x = Towns.of(Towns.text(4, '0', "01:2 13:2 02:2 23:2", ";b001"));
        wayIs(x, 0, 3, 0, 1, 3);
        wayIs(x, 3, 0, 3, 1, 0);
        wayIs(x, 1, 2, 1, 0, 2);
        wayIs(x, 2, 1, 2, 0, 1);
        x.pave(1, 3, 3);
        wayIs(x, 0, 3, 0, 2, 3);
        x.pave(0, 1, 1);
        wayIs(x, 0, 3, 0, 1, 3);
        // 0 1 4 5 and 0 2 3 5, alike: the first CORNER that differs tells, not the last.
        PromiseWalk six = Towns.of(Towns.text(6, '0', "01:1 14:1 45:1 02:1 23:1 35:1", ";b001"));
        wayIs(six, 0, 5, 0, 1, 4, 5);
        wayIs(six, 5, 0, 5, 3, 2, 0);
    }

    private static void severalWaysOfOtherMany() {
        due.sentence("WAY: of rows that are alike FAR the first, though it has more CORNERS, or less");
        PromiseWalk more = Towns.of("t3312;b001");
        wayIs(more, 0, 1, 0, 1);
        PromiseWalk less = Towns.of("t3132;b001");
        wayIs(less, 0, 2, 0, 1, 2);
        wayIs(less, 2, 0, 2, 0);
        // 0 3 is ahead of 0 4 3, but behind 0 1 2 3.
        PromiseWalk many = Towns.of(Towns.text(5, '0', "03:3 01:1 12:1 23:1 04:1 34:2", ";b001"));
        wayIs(many, 0, 3, 0, 1, 2, 3);
        many.pave(1, 2, 0);
        wayIs(many, 0, 3, 0, 3);
    }

    private static void roundByItsOwnCorners() {
        due.sentence("ROUND by the CORNER FROM which, or TO which it goes: no FARTHER");
        for (String text : new String[] {Towns.FOUR, WIDE}) {
            PromiseWalk x = Towns.of(text);
            for (int k = 0; k < 4; k++) {
                due.is("FROM of " + k, x.round(k, x.ofFootman(k, 1)), 0);
                due.is("TO of " + k, x.round(k, x.ofFootman(k, 2)), 0);
            }
        }
        due.is("nowhere by itself", Towns.of(TWO_PARTS).round(3, 0), 0);
    }

    private static void roundThatCantBeGone() {
        due.sentence("ROUND, NONE: it can't be gone");
        PromiseWalk x = Towns.of(TWO_PARTS);
        due.is("a CORNER that it can't come to", x.round(0, 2), -9);
        due.is("a CORNER from which it can't come there", x.round(1, 0), -9);
        due.is("a CORNER behind which it could", x.round(1, 3), -9);
        due.is("by its own FROM", x.round(1, 0), -9);
        due.is("by its own TO", x.round(1, 2), -9);
        due.is("nowhere, by a CORNER out of reach", x.round(3, 2), -9);
        due.is("the other part by itself", x.round(2, 3), 0);
    }

    private static void roundFarther() {
        due.sentence("ROUND: how much FARTHER it is by it, than it is");
        PromiseWalk x = Towns.of("t3194;b021;b001;b011");
        due.is("0 to 2 by 1: 5 in place of 5", x.round(0, 1), 0);
        due.is("0 to 0 by 2: there and back", x.round(1, 2), 10);
        due.is("0 to 1 by 2", x.round(2, 2), 5 + 4 - 1);
        x.days(9);
        x.sit(2);
        due.is("whatever he WALKED", x.round(2, 2), 8);
    }

    private static void keptAlready() {
        due.sentence("KEPT: 0, if he has ARRIVED, also one that SITS");
        PromiseWalk x = Towns.of("t3900;b001;b015;b021");
        x.days(2);
        due.is("who goes nowhere", x.kept(0), 0);
        due.is("who came there", x.kept(1), 0);
        x.sit(0);
        x.sit(1);
        due.is("who goes nowhere and SITS", x.kept(0), 0);
        due.is("who came there and SITS", x.kept(1), 0);
    }

    private static void keptNever() {
        due.sentence("KEPT, NONE: not by then, nothing else being done");
        PromiseWalk x = Towns.of("t3900;b021;b019");
        due.is("it is NONE to go there", x.kept(0), -9);
        due.is("he goes", x.kept(1), 1);
        x.sit(1);
        due.is("he SITS", x.kept(1), -9);
        x.sit(0);
        due.is("he SITS, and it is NONE", x.kept(0), -9);
        x.rise(1);
        due.is("he RISES", x.kept(1), 1);
        x.pave(0, 1, 0);
        due.is("his STREET is taken away", x.kept(1), -9);
    }

    private static void keptAtTheFarthest() {
        due.sentence("KEPT: 0 .. 999, of which no TOWN needs more than 45");
        PromiseWalk x = Towns.of(WIDE);
        due.is("a BOY", x.kept(0), 45);
        due.is("a MAN", x.kept(1), 23);
        due.is("a PAIR", x.kept(2), 45);
        due.is("the other way", x.kept(3), 45);
    }

    private static void keptAsDaysGoBy() {
        due.sentence("KEPT: behind how many DAYS from now a FOOTMAN has ARRIVED");
        for (int k = 0; k < 4; k++) {
            PromiseWalk x = Towns.of("t4999111;b034;m032;p037;b301");
            int kept = x.kept(k);
            for (int day = 0; day < kept; day++) {
                due.is(k + ": kept behind " + day, x.kept(k), kept - day);
                due.is(k + ": ARRIVED behind " + day, x.ofFootman(k, 7), 0);
                x.days(1);
            }
            due.is(k + ": kept", x.kept(k), 0);
            due.is(k + ": ARRIVED", x.ofFootman(k, 7), 1);
        }
        int[] want = {9, 5, 3, 3, 2, 2, 2, 2, 1};
        for (int calves = 1; calves <= 9; calves++) {
            due.is("9 by " + calves, Towns.of("t29;b01" + calves).kept(0), want[calves - 1]);
        }
    }

    private static void keptFromWhatIsWalked() {
        due.sentence("KEPT: from now, so that what he has WALKED counts");
        PromiseWalk x = Towns.of("t29;b014");
        x.days(1);
        due.is("5 left by 4", x.kept(0), 2);
        x.pave(0, 1, 8);
        due.is("4 left by 4", x.kept(0), 1);
        x.pave(0, 1, 4);
        due.is("none left", x.kept(0), 0);
        x.pave(0, 1, 3);
        due.is("he is past it", x.kept(0), 0);
    }

    private static void severalMiddles() {
        due.sentence("MIDDLE: of several the least");
        PromiseWalk alike = Towns.of("t6111111111111111;b001");
        due.is("all alike", alike.middle(0), 0);
        due.is("how FAR", alike.middle(1), 1);
        for (int a = 0; a < 5; a++) {
            alike.pave(a, 5, 2);
            due.is("all but up to " + a, alike.middle(0), a < 4 ? a + 1 : 0);
            due.is("how FAR", alike.middle(1), a < 4 ? 1 : 2);
        }
        due.is("two", Towns.of("t27;b001").middle(0), 0);
        due.is("two, how FAR", Towns.of("t27;b001").middle(1), 7);
        PromiseWalk wide = Towns.of(WIDE);
        due.is("2 and 3 of a row of six", wide.middle(0), 2);
        due.is("2 and 3, how FAR", wide.middle(1), 27);
    }

    private static void middleOfNone() {
        due.sentence("MIDDLE, NONE: from each there is one that can't be reached");
        for (String text : new String[] {TWO_PARTS, Towns.TORN, "t20;b001", ONE_ALONE}) {
            due.is(text + ": middle(0)", Towns.of(text).middle(0), -9);
            due.is(text + ": middle(1)", Towns.of(text).middle(1), -9);
        }
        PromiseWalk x = Towns.of(TWO_PARTS);
        x.pave(1, 2, 9);
        due.is("they are brought together", x.middle(0), 1);
        due.is("how FAR", x.middle(1), 10);
    }

    private static void middleIsTheFarthestOther() {
        due.sentence("MIDDLE: the CORNER from which the FARTHEST other one is the least FAR");
        PromiseWalk x = Towns.of("t4991918;b001");
        due.is("middle(0)", x.middle(0), 3);
        due.is("middle(1)", x.middle(1), 8);
        PromiseWalk star = Towns.of(STAR);
        due.is("a star about 5: middle(0)", star.middle(0), 5);
        due.is("a star about 5: middle(1)", star.middle(1), 5);
        due.is("by ways, not by STREETS", Towns.of("t3919;b001").middle(0), 0);
        due.is("by ways, how FAR", Towns.of("t3919;b001").middle(1), 9);
    }

    private static void middleAtItsEnds() {
        due.sentence("middle: STATE, there is no TOWN; OUTSIDE");
        PromiseWalk x = Towns.of(Towns.FOUR);
        due.is("middle(-1)", x.middle(-1), -2);
        due.is("middle(0)", x.middle(0), 2);
        due.is("middle(1)", x.middle(1), 5);
        due.is("middle(2)", x.middle(2), -2);
        due.is("middle(2) of NONE", Towns.of(TWO_PARTS).middle(2), -2);
        for (int what = -1; what <= 2; what++) {
            due.is("no TOWN: middle(" + what + ")", new PromiseWalk().middle(what), -3);
        }
    }

    private static void treeIs(String text, int lengths, int set) {
        PromiseWalk x = Towns.of(text);
        due.is(text + ": tree(0)", x.tree(0), lengths);
        due.is(text + ": tree(1)", x.tree(1), set);
    }

    private static void severalTrees() {
        due.sentence("TREE: as a set: of several the least");
        treeIs("t3111;b001", 2, 1 | 2);
        treeIs("t6111111111111111;b001", 5, 31);
        treeIs("t6999999999999999;b001", 45, 31);
        treeIs("t4101101;b001", 3, 1 | 4 | 8);
        // A ring of four: all but the STREET with the greatest number.
        treeIs("t4550055;b001", 15, 1 | 2 | 16);
        // STREETS of 1 with great numbers stand; of those of 2 the least numbers fill up.
        treeIs("t4222211;b001", 4, 1 | 16 | 32);
        treeIs(Towns.text(5, '2', "", ";b001"), 8, 1 | 2 | 4 | 8);
        // 01, 12 and 02 of 2 alike, 03 and 13 of 3 alike.
        treeIs(Towns.text(4, '0', "01:2 12:2 02:2 03:3 13:3", ";b001"), 7, 1 | 2 | 4);
    }

    private static void treeOfNone() {
        due.sentence("TREE, NONE: they don't hang together");
        for (String text : new String[] {TWO_PARTS, Towns.TORN, "t20;b001", ONE_ALONE}) {
            treeIs(text, -9, -9);
        }
        PromiseWalk x = Towns.of("t21;b001");
        due.is("tree(0)", x.tree(0), 1);
        x.pave(0, 1, 0);
        due.is("its STREET is taken away", x.tree(0), -9);
        due.is("as a set", x.tree(1), -9);
    }

    private static void treeIsTheLeast() {
        due.sentence("TREE: STREETS by which all CORNERS hang together, with the least LENGTHS together");
        treeIs("t21;b001", 1, 1);
        treeIs("t29;b001", 9, 1);
        treeIs("t3191;b001", 2, 1 | 4);
        treeIs("t3991;b001", 10, 1 | 4);
        treeIs(WIDE, 45, 1 | 1 << 5 | 1 << 9 | 1 << 12 | 1 << 14);
        treeIs(STAR, 15, 1 << 4 | 1 << 8 | 1 << 11 | 1 << 13 | 1 << 14);
        treeIs("t4321123;b001", 4, 2 | 4 | 8);
        treeIs("t4331123;b001", 4, 4 | 8 | 16);
    }

    private static void treeAtItsEnds() {
        due.sentence("tree: STATE, there is no TOWN; OUTSIDE");
        PromiseWalk x = Towns.of(Towns.FOUR);
        due.is("tree(-1)", x.tree(-1), -2);
        due.is("tree(0)", x.tree(0), 9);
        due.is("tree(1)", x.tree(1), 1 | 8 | 32);
        due.is("tree(2)", x.tree(2), -2);
        due.is("tree(2) of NONE", Towns.of(TWO_PARTS).tree(2), -2);
        for (int what = -1; what <= 2; what++) {
            due.is("no TOWN: tree(" + what + ")", new PromiseWalk().tree(what), -3);
        }
    }

    private static void errandsAre(String text, int days, int... row) {
        rowIs(text, Towns.of(text), days, row);
    }

    private static void rowIs(String words, PromiseWalk x, int days, int... row) {
        due.is(words + ": errands(-1)", x.errands(-1), days);
        for (int k = 0; k <= 5; k++) {
            due.is(words + ": errands(" + k + ")", x.errands(k), k < row.length ? row[k] : -9);
        }
    }

    private static void severalRowsOfErrands() {
        due.sentence("ERRANDS: of several the first as a row");
        // Whoever goes where, the last one takes a DAY.
        errandsAre("t6111111111111111;b051;b041;b031;b021;b011", 1, 1, 2, 3, 4, 5);
        errandsAre("t3111;b011;b129;b201", 0, 0, 1, 2);
        // Both stand at 2, from where 1 is near and 0 is not: who goes where is alike.
        errandsAre(Towns.text(3, '9', "02:5 12:1", ";b211;b201"), 5, 0, 1);
        // The first of all rows would be 0 1, but then both had to change places.
        errandsAre("t3999;b111;b001", 0, 1, 0);
        // FOOTMAN 2 takes 3 DAYS to 0, so that the others may take as many, though they need not go at all.
        errandsAre(Towns.text(3, '0', "01:1 02:3 12:9", ";b101;b011;b201"), 3, 0, 1, 0);
        errandsAre(Towns.text(3, '0', "01:1 02:3 12:9", ";b201;b101;b011"), 3, 0, 0, 1);
        errandsAre(Towns.text(3, '9', "01:1 02:1 12:2", ";b011;b021;b001"), 1, 0, 1, 2);
    }

    private static void errandsAsOftenAsTheyGo() {
        due.sentence("ERRANDS: each as often as they go to it");
        errandsAre("t29;b019;b019;b019;b019;b019", 1, 1, 1, 1, 1, 1);
        errandsAre("t29;b019;b009;b019;b009;b019", 1, 0, 0, 1, 1, 1);
        errandsAre("t29;b011;b101", 0, 0, 1);
        PromiseWalk x = Towns.of("t29;b019;b009;b019;b009;b019");
        x.give(0, 1, 0, 9);
        rowIs("six", x, 1, 0, 0, 0, 1, 1, 1);
    }

    private static void errandsToItself() {
        due.sentence("ERRANDS: from a CORNER to itself it is 0 DAYS");
        errandsAre("t20;b001", 0, 0);
        errandsAre("t6000000000000000;b011;b121;b231;b341;b401", 0, 0, 1, 2, 3, 4);
    }

    private static void errandsOfNone() {
        due.sentence("ERRANDS, NONE: by all somebody never does");
        errandsAre("t20;b011", -9);
        errandsAre(TWO_PARTS.replace(";b001", ""), -9);
        errandsAre("t4100001;b021;b201", 0, 0, 2);
        errandsAre("t4100001;b031;b211", 1, 1, 3);
        errandsAre("t4100001;b031;b131;b211", -9);
    }

    private static void errandsAllSetOffNow() {
        due.sentence("ERRANDS: if all set off now from where they did");
        PromiseWalk x = Towns.of("t3369;b012;m021;p005");
        rowIs("ahead of any DAY", x, 2, 0, 1, 2);
        x.days(3);
        rowIs("whatever they WALKED", x, 2, 0, 1, 2);
        x.sit(0);
        x.sit(2);
        rowIs("whoever SITS", x, 2, 0, 1, 2);
        x.pave(0, 1, 9);
        rowIs("by STREETS as they are", x, 3, 0, 2, 1);
    }

    private static void errandsTheLastOneSoonest() {
        due.sentence("ERRANDS: so that the last one ARRIVES soonest");
        // The quick one goes FAR, the slow one goes near, though it told otherwise.
        errandsAre("t3190;b021;b019", 1, 1, 2);
        // Together 1 and 9 DAYS would be less than 6 and 6, but the last one counts.
        errandsAre("t4199666;b011;b101", 0, 0, 1);
        errandsAre("t4169900;b011;b021", 6, 1, 2);
        PromiseWalk kinds = Towns.of("t3900;b004;b014;p018;m017");
        due.is("three to 1, one to 0", kinds.errands(-1), 3);
        due.is("FOOTMAN 0", kinds.errands(0), 0);
    }

    private static void errandsAskedAgain() {
        due.sentence("ERRANDS: of those who are there, whoever was there before");
        PromiseWalk x = Towns.of("t29;b011;b011;b011;b011;b011");
        x.give(0, 0, 1, 1);
        rowIs("six", x, 9, 1, 1, 1, 1, 1, 1);
        for (int many = 1; many <= 5; many++) {
            String text = "t21" + ";b011".repeat(many);
            Towns.write(x, 0, Towns.BYTES, text);
            due.is("town", x.town(0, Towns.BYTES, 0, text.length()), many);
            due.is(many + " on a STREET of 1", x.errands(-1), 1);
            due.is("the last one", x.errands(many - 1), 1);
            due.is("one more", x.errands(many), -9);
            x.pave(0, 1, 0);
            due.is("no STREET", x.errands(-1), -9);
        }
    }

    private static void errandsAtItsEnds() {
        due.sentence("errands: STATE, there is no TOWN; OUTSIDE; k -1, 0 .. 5");
        PromiseWalk x = Towns.full();
        due.is("errands(-2)", x.errands(-2), -2);
        due.is("errands(6)", x.errands(6), -2);
        due.holds("errands(5) of six", x.errands(5) >= 0);
        due.is("errands(5) of five", Towns.busy().errands(5), -9);
        due.is("errands(6) of NONE", Towns.of("t20;b011").errands(6), -2);
        for (int k = -2; k <= 6; k++) {
            due.is("no TOWN: errands(" + k + ")", new PromiseWalk().errands(k), -3);
        }
    }
}
