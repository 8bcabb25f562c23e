/** Promises 12 to 17: WAY, ROUND, KEPT, MIDDLE, TREE, ERRANDS. */
public final class WaysTest {
    private static final Due due = new Due("WaysTest");

    public static void main(String[] args) {
        way();
        firstOfSeveralWays();
        round();
        kept();
        middle();
        tree();
        leastOfSeveralTrees();
        errands();
        errandsOfSixAndOfNone();
        due.finish();
    }

    private static void ways(PromiseWalk x, int a, int b, int... corners) {
        String call = "way(" + a + ", " + b + ", ";
        due.is(call + "-1)", x.way(a, b, -1), corners.length);
        for (int k = 0; k <= 5; k++) {
            due.is(call + k + ")", x.way(a, b, k), k < corners.length ? corners[k] : -9);
        }
    }

    private static void way() {
        PromiseWalk x = Towns.of(Towns.FOUR);
        ways(x, 1, 3, 1, 2, 3);
        ways(x, 3, 1, 3, 2, 1);
        ways(x, 2, 2, 2);
        due.is("way(0, 4, 6)", x.way(0, 4, 6), -1);
        due.is("way(-1, 0, 0)", x.way(-1, 0, 0), -1);
        due.is("way(0, 1, 6)", x.way(0, 1, 6), -2);
        due.is("way(0, 1, -2)", x.way(0, 1, -2), -2);
        PromiseWalk torn = Towns.of(Towns.TORN);
        for (int k = -1; k <= 5; k++) {
            due.is("torn: way(0, 5, " + k + ")", torn.way(0, 5, k), -9);
        }
        due.is("torn: way(0, 5, 6)", torn.way(0, 5, 6), -2);
    }

    private static void firstOfSeveralWays() {
        PromiseWalk x = Towns.of(Towns.FOUR);
        ways(x, 0, 2, 0, 1, 2);
        ways(x, 0, 3, 0, 1, 2, 3);
        ways(x, 2, 0, 2, 0);
        ways(x, 3, 0, 3, 2, 0);
        // A chain 0 1 2 3 4 5 as long as the street 0 5.
        PromiseWalk chain = Towns.of("t6100051000100101;b051");
        ways(chain, 0, 5, 0, 1, 2, 3, 4, 5);
        ways(chain, 5, 0, 5, 0);
    }

    private static void round() {
        PromiseWalk x = Towns.of(Towns.FOUR);
        due.is("round(0, 1), on the way", x.round(0, 1), 0);
        due.is("round(0, 3)", x.round(0, 3), 8);
        due.is("round(0, 0)", x.round(0, 0), 0);
        due.is("round(2, 0), there and back", x.round(2, 0), 10);
        due.is("round(4, 0)", x.round(4, 0), -1);
        due.is("round(0, 4)", x.round(0, 4), -1);
        due.is("round(0, -1)", x.round(0, -1), -1);
        PromiseWalk torn = Towns.of(Towns.TORN);
        due.is("torn: round(0, 2)", torn.round(0, 2), -9);
        due.is("torn: round(1, 0)", torn.round(1, 0), -9);
        due.is("torn: round(2, 4)", torn.round(2, 4), 2);
        due.is("torn: round(2, 0)", torn.round(2, 0), -9);
    }

    private static void kept() {
        PromiseWalk x = Towns.of(Towns.FOUR);
        int[] want = {2, 5, 0, 7};
        for (int k = 0; k < 4; k++) {
            due.is("kept(" + k + ")", x.kept(k), want[k]);
        }
        x.days(1);
        due.is("a day later: kept(1)", x.kept(1), 4);
        due.is("a day later: kept(3)", x.kept(3), 6);
        x.sit(1);
        due.is("it sits: kept(1)", x.kept(1), -9);
        x.sit(2);
        due.is("it sits, but has arrived: kept(2)", x.kept(2), 0);
        due.is("kept(4)", x.kept(4), -1);
        due.is("kept(-1)", x.kept(-1), -1);
        due.is("torn: kept(1)", Towns.of(Towns.TORN).kept(1), -9);
        // The farthest that it can be: five streets of 9 for a pace of 1.
        PromiseWalk far = Towns.of("t6900009000900909;b051");
        due.is("the longest way: kept(0)", far.kept(0), 45);
    }

    private static void middle() {
        PromiseWalk x = Towns.of(Towns.FOUR);
        due.is("middle(0)", x.middle(0), 2);
        due.is("middle(1)", x.middle(1), 5);
        PromiseWalk alike = Towns.of("t3111;b001");
        due.is("all alike: middle(0)", alike.middle(0), 0);
        due.is("all alike: middle(1)", alike.middle(1), 1);
        PromiseWalk two = Towns.of("t3019;b001");
        due.is("a chain 0 2 1: middle(0)", two.middle(0), 2);
        due.is("a chain 0 2 1: middle(1)", two.middle(1), 9);
        due.is("torn: middle(0)", Towns.of(Towns.TORN).middle(0), -9);
        due.is("torn: middle(1)", Towns.of(Towns.TORN).middle(1), -9);
        due.is("middle(2)", x.middle(2), -2);
        due.is("middle(-1)", x.middle(-1), -2);
        due.is("without a town: middle(2)", new PromiseWalk().middle(2), -3);
    }

    private static void tree() {
        PromiseWalk x = Towns.of(Towns.FOUR);
        due.is("tree(0)", x.tree(0), 9);
        due.is("tree(1)", x.tree(1), 1 << 0 | 1 << 3 | 1 << 5);
        x.pave(1, 2, 6);
        due.is("paved: tree(0)", x.tree(0), 11);
        due.is("paved: tree(1)", x.tree(1), 1 << 0 | 1 << 1 | 1 << 5);
        due.is("torn: tree(0)", Towns.of(Towns.TORN).tree(0), -9);
        due.is("torn: tree(1)", Towns.of(Towns.TORN).tree(1), -9);
        due.is("tree(2)", x.tree(2), -2);
        due.is("tree(-1)", x.tree(-1), -2);
        due.is("without a town: tree(2)", new PromiseWalk().tree(2), -3);
    }

    private static void leastOfSeveralTrees() {
        PromiseWalk x = Towns.of("t6111111111111111;b001");
        due.is("all alike: tree(0)", x.tree(0), 5);
        due.is("all alike: tree(1)", x.tree(1), 31);
        PromiseWalk ring = Towns.of("t4203303;b001");
        due.is("a ring: tree(0)", ring.tree(0), 8);
        due.is("a ring: tree(1)", ring.tree(1), 1 << 0 | 1 << 2 | 1 << 3);
        PromiseWalk two = Towns.of("t29;b001");
        due.is("a street of 9: tree(0)", two.tree(0), 9);
        due.is("a street of 9: tree(1)", two.tree(1), 1);
        // CORNER 0 hangs by the longest STREET, that to the last CORNER.
        PromiseWalk last = Towns.of("t4009110;b001");
        due.is("the first by the last: tree(0)", last.tree(0), 11);
        due.is("the first by the last: tree(1)", last.tree(1), 1 << 2 | 1 << 3 | 1 << 4);
        due.is("asked again: tree(1)", last.tree(1), 1 << 2 | 1 << 3 | 1 << 4);
    }

    private static void errandsAre(PromiseWalk x, int days, int... goals) {
        due.is("errands(-1)", x.errands(-1), days);
        for (int k = 0; k <= 5; k++) {
            due.is("errands(" + k + ")", x.errands(k), k < goals.length ? goals[k] : -9);
        }
    }

    private static void errands() {
        // Each stands where the other goes: they change.
        errandsAre(Towns.of("t29;b011;b101"), 0, 0, 1);
        // The slow one would need 9 days for what takes the quick one one.
        errandsAre(Towns.of("t3990;b011;b009"), 1, 0, 1);
        PromiseWalk x = Towns.of("t3111;b015;b125;b205");
        x.sit(0);
        x.days(1);
        errandsAre(x, 0, 0, 1, 2);
        // Some goals twice, several rows as soon: the first one.
        errandsAre(Towns.of("t3111;b021;b021;b011"), 1, 1, 2, 2);
        errandsAre(Towns.of("t3112;b021;b001;b021"), 1, 0, 2, 2);
        due.is("errands(6)", x.errands(6), -2);
        due.is("errands(-2)", x.errands(-2), -2);
        due.is("without a town: errands(6)", new PromiseWalk().errands(6), -3);
    }

    private static void errandsOfSixAndOfNone() {
        PromiseWalk six = Towns.of("t6123456789123456;b051;b141;b231;b321;b411");
        six.give(0, 5, 0, 1);
        errandsAre(six, 0, 0, 1, 2, 3, 4, 5);
        errandsAre(Towns.of(Towns.TORN), -9);
        // Alone it never comes there, but another can go for it.
        errandsAre(Towns.of("t6100000000111111;b051;b201"), 1, 0, 5);
    }
}
