/** "Terms", ==== 1, and promises 1 to 6, sentence by sentence. */
public final class TownEdgesTest {
    private static final Due due = new Due("TownEdgesTest");

    public static void main(String[] args) {
        due.each(
            TownEdgesTest::newObjectHasNoTown,
            TownEdgesTest::newObjectHasNoSheets,
            TownEdgesTest::twoToSixCorners,
            TownEdgesTest::oneToFiveFootmen,
            TownEdgesTest::textEndsTooSoon,
            TownEdgesTest::tooManyFootmen,
            TownEdgesTest::cornerThatThereIsnt,
            TownEdgesTest::digitsOutside,
            TownEdgesTest::lettersOfKinds,
            TownEdgesTest::codesBehindTheEnd,
            TownEdgesTest::eachCodeAtEachPlace,
            TownEdgesTest::firstOfSeveralFaults,
            TownEdgesTest::codesOfWideLanes,
            TownEdgesTest::onlyTheCellsThatAreTaken,
            TownEdgesTest::takenMakesAllAnew,
            TownEdgesTest::takenLeavesSheetsAndTrace,
            TownEdgesTest::notTakenLeavesAll,
            TownEdgesTest::streetsByTheirNumbers,
            TownEdgesTest::ofFootmanTellsEach,
            TownEdgesTest::paces,
            TownEdgesTest::streetBothWays,
            TownEdgesTest::paveAtItsEnds,
            TownEdgesTest::farToItself,
            TownEdgesTest::farByTheLeastLengths,
            TownEdgesTest::farNone,
            TownEdgesTest::arrivedAsStreetsAreNow,
            TownEdgesTest::arrivedByNoLess);
        due.finish();
    }

    private static int head(int corners) {
        return 2 + corners * (corners - 1) / 2;
    }

    /** A TEXT of so many CORNERS and FOOTMEN. */
    private static String text(int corners, int footmen) {
        StringBuilder text = new StringBuilder("t").append(corners);
        while (text.length() < head(corners)) {
            text.append(text.length() % 10);
        }
        for (int k = 0; k < footmen; k++) {
            text.append(';').append("bmp".charAt(k % 3)).append(k % corners).append((k + 1) % corners).append(1 + k);
        }
        return text.toString();
    }

    private static String with(String text, int place, char code) {
        StringBuilder other = new StringBuilder(text);
        other.setCharAt(place, code);
        return other.toString();
    }

    private static void newObjectHasNoTown() {
        due.sentence("a new object: no TOWN (no CORNERS, FOOTMEN)");
        for (int what = 0; what <= 4; what++) {
            due.is("many(" + what + ")", new PromiseWalk().many(what), 0);
        }
        PromiseWalk x = new PromiseWalk();
        due.is("ofFootman", x.ofFootman(0, 0), -1);
        due.is("street", x.street(0, 1), -1);
        due.is("pave", x.pave(0, 1, 1), -1);
        due.is("far", x.far(0, 0), -1);
        due.is("days", x.days(1), -3);
        due.is("sit", x.sit(0), -1);
        due.is("rise", x.rise(0), -1);
        due.is("give", x.give(0, 0, 0, 1), -1);
        due.is("way", x.way(0, 0, 0), -1);
        due.is("round", x.round(0, 0), -1);
        due.is("kept", x.kept(0), -1);
        due.is("middle", x.middle(0), -3);
        due.is("tree", x.tree(0), -3);
        due.is("errands", x.errands(0), -3);
        due.is("reading", x.reading(0, 0, 0), -1);
        due.is("back(0)", x.back(0), 0);
        due.is("calves", x.calves(0), -1);
        due.is("kinds", x.kinds(0), -1);
        due.is("odds", x.odds(0, 0, 0), Long.MIN_VALUE);
        due.is("tell", x.tell(0), -1);
        due.is("ring", x.ring(0), -1);
        due.is("as", x.as(0, 0), -1);
        due.is("trace", x.trace(), 0);
    }

    private static void newObjectHasNoSheets() {
        due.sentence("a new object: SHEETS have nothing");
        PromiseWalk x = new PromiseWalk();
        for (int k = 0; k <= 3; k++) {
            due.is("put " + k, x.put(k, 0, 1), -11);
            due.is("copy " + k, x.copy(k, 0, k, 0, 0), -11);
            for (int lane = 0; lane <= 2; lane++) {
                due.is("town " + k, x.town(k, lane, 0, 0), -11);
                due.is("cell " + k, x.cell(k, 0, lane), Long.MIN_VALUE);
                due.is("cell " + k + ": fault()", x.fault(), 1);
            }
            due.is("lose " + k, x.lose(k), 0);
        }
    }

    private static void twoToSixCorners() {
        due.sentence("a digit 2 .. 6: how many CORNERS there are");
        for (int corners = 2; corners <= 6; corners++) {
            PromiseWalk x = Towns.of(text(corners, 1));
            due.is(corners + ": many(1)", x.many(1), corners);
            due.is(corners + ": the last one", x.far(corners - 1, corners - 1), 0);
            due.is(corners + ": one more", x.far(corners, corners), -1);
        }
        for (char code : new char[] {'/', '0', '1', '7', '8', '9', ':'}) {
            due.is("t" + code, Towns.told(with(text(2, 1), 1, code)), -101);
            due.is("t" + code + " of six", Towns.told(with(text(6, 1), 1, code)), -101);
        }
    }

    private static void oneToFiveFootmen() {
        due.sentence("1 to 5 FOOTMEN, numbered from 0 on; town answers how many");
        for (int corners = 2; corners <= 6; corners++) {
            for (int footmen = 1; footmen <= 5; footmen++) {
                PromiseWalk x = new PromiseWalk();
                String text = text(corners, footmen);
                Towns.write(x, 0, Towns.BYTES, text);
                due.is(text, x.town(0, Towns.BYTES, 0, text.length()), footmen);
                due.is(text + ": many(0)", x.many(0), footmen);
                due.is(text + ": CALVES of the last one", x.ofFootman(footmen - 1, 3), footmen);
                due.is(text + ": one more", x.ofFootman(footmen, 3), -1);
            }
            due.is("no FOOTMEN", Towns.told(text(corners, 0)), -100 - head(corners));
        }
    }

    private static void textEndsTooSoon() {
        due.sentence("FIRST FAULT: how many codes there are, if it just ends too soon");
        for (int corners = 2; corners <= 6; corners++) {
            String text = text(corners, 5);
            PromiseWalk x = new PromiseWalk();
            Towns.write(x, 0, Towns.INTS, text);
            for (int n = 0; n <= text.length(); n++) {
                int behind = n - head(corners);
                boolean whole = behind > 0 && behind % 5 == 0;
                due.is(n + " codes of " + text, x.town(0, Towns.INTS, 0, n), whole ? behind / 5 : -100 - n);
            }
        }
    }

    private static void tooManyFootmen() {
        due.sentence("FIRST FAULT: the ; of a sixth FOOTMAN");
        for (int corners = 2; corners <= 6; corners++) {
            int end = head(corners) + 25;
            due.is("six of " + corners, Towns.told(text(corners, 6)), -100 - end);
            due.is("the ; alone of " + corners, Towns.told(text(corners, 5) + ";"), -100 - end);
            due.is("half a sixth of " + corners, Towns.told(text(corners, 5) + ";b0"), -100 - end);
            due.is("five of " + corners, Towns.told(text(corners, 5)), 5);
        }
    }

    private static void cornerThatThereIsnt() {
        due.sentence("a digit of a CORNER that there is, another such digit, perhaps the same");
        for (int corners = 2; corners <= 6; corners++) {
            String text = text(corners, 2);
            for (int footman = 0; footman < 2; footman++) {
                int from = head(corners) + 5 * footman + 2;
                for (int place = from; place <= from + 1; place++) {
                    for (int digit = 0; digit <= 9; digit++) {
                        String other = with(text, place, (char) ('0' + digit));
                        due.is(other, Towns.told(other), digit < corners ? 2 : -100 - place);
                    }
                }
            }
        }
        due.is("from and to the same", Towns.told("t29;b001;b111"), 2);
    }

    private static void digitsOutside() {
        due.sentence("LENGTH a digit 0 .. 9, CALVES a digit 1 .. 9");
        for (int corners = 2; corners <= 6; corners++) {
            String text = text(corners, 2);
            for (int place = 2; place < head(corners); place++) {
                due.is("0 at " + place, Towns.told(with(text, place, '0')), 2);
                due.is("9 at " + place, Towns.told(with(text, place, '9')), 2);
                due.is("/ at " + place, Towns.told(with(text, place, '/')), -100 - place);
                due.is(": at " + place, Towns.told(with(text, place, ':')), -100 - place);
            }
            for (int place = head(corners) + 4; place < text.length(); place += 5) {
                due.is("CALVES 1 at " + place, Towns.told(with(text, place, '1')), 2);
                due.is("CALVES 9 at " + place, Towns.told(with(text, place, '9')), 2);
                due.is("CALVES 0 at " + place, Towns.told(with(text, place, '0')), -100 - place);
                due.is("CALVES : at " + place, Towns.told(with(text, place, ':')), -100 - place);
            }
        }
    }

    private static void lettersOfKinds() {
        due.sentence("Kinds: 0 BOY (b); 1 MAN (m); 2 PAIR (p)");
        String letters = "bmp";
        for (int code = 0; code < 256; code++) {
            PromiseWalk x = new PromiseWalk();
            Towns.write(x, 0, Towns.SHORTS, with("t29;b011", 4, (char) code));
            int kind = letters.indexOf((char) code);
            due.is("letter " + code, x.town(0, Towns.SHORTS, 0, 8), kind < 0 ? -104 : 1);
            due.is("kind of letter " + code, x.ofFootman(0, 0), kind < 0 ? -1 : kind);
        }
    }

    private static void codesBehindTheEnd() {
        due.sentence("codes behind its end: but for a ; no TEXT goes on with them");
        for (int footmen = 1; footmen <= 5; footmen++) {
            String text = text(3, footmen);
            for (int code = 0; code < 128; code++) {
                int fault = code == ';' && footmen < 5 ? text.length() + 1 : text.length();
                due.is(footmen + " FOOTMEN and code " + code, Towns.told(text + (char) code), -100 - fault);
            }
        }
    }

    /** Which codes go on at a place of a TEXT of three CORNERS and two FOOTMEN. */
    private static String goOn(int place) {
        if (place < 5) {
            return new String[] {"t", "3", "0123456789", "0123456789", "0123456789"}[place];
        }
        return new String[] {";", "bmp", "012", "012", "123456789"}[(place - 5) % 5];
    }

    private static void eachCodeAtEachPlace() {
        due.sentence("FIRST FAULT: the place (from 0 on) of the first code with which no TEXT goes on");
        String text = text(3, 2);
        for (int place = 0; place < text.length(); place++) {
            codesAt(text, place, -128, 0);
            codesAt(text, place, 0, 128);
        }
    }

    private static void codesAt(String text, int place, int least, int end) {
        PromiseWalk x = new PromiseWalk();
        Towns.write(x, 0, Towns.BYTES, text);
        for (int code = least; code < end; code++) {
            boolean anotherDigit = place == 1 && "2456".indexOf(code) >= 0;
            if (!anotherDigit) {
                x.put(0, place, code);
                int want = code >= 0 && goOn(place).indexOf(code) >= 0 ? 2 : -100 - place;
                due.is("code " + code + " at " + place, x.town(0, Towns.BYTES, 0, text.length()), want);
            }
        }
    }

    private static void firstOfSeveralFaults() {
        due.sentence("FIRST FAULT: of several the first");
        String text = text(4, 3);
        for (int first = 0; first < text.length(); first++) {
            for (int second = first; second < text.length(); second++) {
                String other = with(with(text, first, '!'), second, '!');
                due.is(other, Towns.told(other), -100 - first);
            }
            due.is("and it ends too soon behind it", Towns.told(with(text, first, '!').substring(0, text.length() - 1)),
                -100 - Math.min(first, text.length() - 1));
        }
    }

    private static void codesOfWideLanes() {
        due.sentence("n cells of a SHEET, taken as a row of a LANE: codes are what the cells have");
        String text = text(2, 1);
        for (int lane = 0; lane <= 2; lane++) {
            for (int place = 0; place < text.length(); place++) {
                PromiseWalk x = new PromiseWalk();
                Towns.write(x, 2, lane, text);
                due.is("lane " + lane, x.town(2, lane, 0, text.length()), 1);
                int fault = -100 - place;
                for (int more : new int[] {256, -256, 32512}) {
                    x.put(2, place, text.charAt(place) + more);
                    due.is("lane " + lane + ": " + more + " more at " + place, x.town(2, lane, 0, text.length()), lane == 0 ? 1 : fault);
                }
                for (int more : new int[] {65536, -65536, Integer.MIN_VALUE}) {
                    x.put(2, place, text.charAt(place) + more);
                    due.is("lane " + lane + ": " + more + " more at " + place, x.town(2, lane, 0, text.length()), lane == 2 ? fault : 1);
                }
            }
        }
    }

    private static void onlyTheCellsThatAreTaken() {
        due.sentence("n cells of a SHEET from i on: neither what is ahead of them nor what is behind");
        String text = text(4, 2);
        for (int ahead = 0; ahead <= 5; ahead++) {
            PromiseWalk x = new PromiseWalk();
            String row = "t25;b".substring(0, ahead) + text + ";b011;";
            Towns.write(x, 3, Towns.INTS, row);
            due.is("ahead " + ahead, x.town(3, Towns.INTS, ahead, text.length()), 2);
            due.is("ahead " + ahead + ": FROM", x.ofFootman(1, 1), 1);
            due.is("ahead " + ahead + ": street(2, 3)", x.street(2, 3), text.charAt(7) - '0');
            due.is("ahead " + ahead + ": less", x.town(3, Towns.INTS, ahead, 9), -109);
            due.is("ahead " + ahead + ": more", x.town(3, Towns.INTS, ahead, text.length() + 5), 3);
            due.is("ahead " + ahead + ": all", x.town(3, Towns.INTS, ahead, text.length() + 6), -100 - text.length() - 6);
            x.put(3, ahead + 8, '!');
            due.is("ahead " + ahead + ": the place from 0 on", x.town(3, Towns.INTS, ahead, text.length()), -108);
        }
        PromiseWalk x = new PromiseWalk();
        Towns.write(x, 0, Towns.BYTES, "!".repeat(52) + "t29;b011");
        due.is("the last of sixty cells", x.town(0, Towns.BYTES, 52, 8), 1);
        whateverIsBehindTheFirst();
    }

    /** The second cell would tell how many CORNERS, but is not taken. */
    private static void whateverIsBehindTheFirst() {
        for (int code = 65500; code < 65700; code++) {
            PromiseWalk x = new PromiseWalk();
            Towns.row(x, 0, Towns.INTS, 't', code);
            due.is("t alone, behind it " + code, x.town(0, Towns.INTS, 0, 1), -101);
            due.is("none", x.town(0, Towns.INTS, 0, 0), -100);
        }
    }

    private static PromiseWalk retaken(String text) {
        PromiseWalk x = Towns.full();
        Towns.write(x, 3, Towns.BYTES, text);
        due.is("taken: " + text, x.town(3, Towns.BYTES, 0, text.length()), (text.length() - head(text.charAt(1) - '0')) / 5);
        return x;
    }

    private static void takenMakesAllAnew() {
        due.sentence("a TEXT that is taken makes all anew: DAY 0, all have WALKED 0, nobody SITS, no READINGS");
        for (String text : new String[] {Towns.FOUR, "t29;b001", Towns.TORN, text(6, 5), text(3, 1)}) {
            due.same(text + ": all of the TOWN", Seen.town(retaken(text)), Seen.town(Towns.of(text)));
        }
        PromiseWalk x = retaken(Towns.FOUR);
        due.is("DAY", x.many(2), 0);
        due.is("READINGS", x.many(4), 0);
        for (int k = 0; k < 4; k++) {
            due.is("WALKED " + k, x.ofFootman(k, 5), 0);
            due.is("SITS " + k, x.ofFootman(k, 6), 0);
        }
        due.is("FOOTMEN", x.many(0), 4);
        due.is("the next READING", x.reading(0, 0, 0), 0);
        due.is("the next FOOTMAN", x.give(0, 0, 1, 1), 4);
        due.is("who sat sits down", x.sit(1), 1);
    }

    private static void takenLeavesSheetsAndTrace() {
        due.sentence("but for SHEETS and TRACE");
        PromiseWalk x = Towns.full();
        int trace = x.trace();
        due.holds("there is a TRACE", trace != 0);
        due.is("town", x.town(0, Towns.BYTES, 0, 28), 4);
        due.is("TRACE", x.trace(), trace);
        due.same("SHEETS", Seen.sheets(x), Seen.sheets(Towns.full()));
    }

    private static void notTakenLeavesAll() {
        due.sentence("a TEXT that is not taken changes nothing");
        for (int n = 0; n < 28; n++) {
            if (n < 13 || (n - 8) % 5 != 0) {
                PromiseWalk x = Towns.full();
                due.is(n + " codes", x.town(0, Towns.BYTES, 0, n), -100 - n);
                due.same(n + " codes: all", Seen.all(x), Seen.all(Towns.full()));
            }
        }
        PromiseWalk x = Towns.full();
        due.is("a fault in the last code", x.town(1, Towns.INTS, 0, 5), -100);
        due.same("all", Seen.all(x), Seen.all(Towns.full()));
    }

    private static void streetsByTheirNumbers() {
        due.sentence("0 and 1, 0 and 2, .., 1 and 2, ..: STREETS are numbered so, those that there are not, too");
        for (int corners = 2; corners <= 6; corners++) {
            int number = 0;
            for (int a = 0; a < corners; a++) {
                for (int b = a + 1; b < corners; b++) {
                    StringBuilder text = new StringBuilder(text(corners, 1));
                    for (int place = 2; place < head(corners); place++) {
                        text.setCharAt(place, place == 2 + number ? '7' : '0');
                    }
                    onlyStreet(text.toString(), corners, a, b);
                    number++;
                }
            }
        }
        due.is("of STREETS as a set", Towns.of("t3808;b001").tree(1), 1 + 4);
    }

    private static void onlyStreet(String text, int corners, int a, int b) {
        PromiseWalk x = Towns.of(text);
        for (int c = 0; c < corners; c++) {
            for (int d = 0; d < corners; d++) {
                boolean it = c == a && d == b || c == b && d == a;
                due.is(text + ": street(" + c + ", " + d + ")", x.street(c, d), c == d ? -1 : it ? 7 : 0);
            }
        }
    }

    private static void ofFootmanTellsEach() {
        due.sentence("of a FOOTMAN: kind, FROM, TO, CALVES, PACE, WALKED, SITS, ARRIVED");
        PromiseWalk x = Towns.of("t6909999999999999;b019;m523;p341;p448;m205");
        x.days(2);
        x.sit(0);
        x.sit(4);
        int[][] want = {{0, 0, 1, 9, 9, 9, 1, 1}, {1, 5, 2, 3, 4, 8, 0, 0}, {2, 3, 4, 1, 1, 2, 0, 0}, {2, 4, 4, 8, 4, 0, 0, 1},
            {1, 2, 0, 5, 6, 12, 1, 0}};
        for (int k = 0; k < want.length; k++) {
            for (int what = 0; what <= 7; what++) {
                due.is("ofFootman(" + k + ", " + what + ")", x.ofFootman(k, what), want[k][what]);
            }
        }
    }

    private static void paces() {
        due.sentence("PACE: of a BOY CALVES; of a MAN 1 more; of a PAIR half of what a MAN's is");
        for (int calves = 1; calves <= 9; calves++) {
            PromiseWalk x = Towns.of("t29;b01" + calves + ";m01" + calves + ";p01" + calves);
            due.is("a BOY with " + calves, x.ofFootman(0, 4), calves);
            due.is("a MAN with " + calves, x.ofFootman(1, 4), calves + 1);
            due.is("a PAIR with " + calves, x.ofFootman(2, 4), (calves + 1) / 2);
        }
    }

    private static void streetBothWays() {
        due.sentence("LENGTH of the STREET between two CORNERS (0: there is none)");
        PromiseWalk x = Towns.of("t3190;b001");
        int[][] want = {{-1, 1, 9}, {1, -1, 0}, {9, 0, -1}};
        for (int a = 0; a < 3; a++) {
            for (int b = 0; b < 3; b++) {
                due.is("street(" + a + ", " + b + ")", x.street(a, b), want[a][b]);
            }
        }
    }

    private static void paveAtItsEnds() {
        due.sentence("that LENGTH becomes v (0 .. 9): what it was");
        PromiseWalk x = Towns.of(text(6, 1));
        for (int a = 0; a < 6; a++) {
            for (int b = 0; b < 6; b++) {
                if (a != b) {
                    int was = x.street(a, b);
                    due.is("pave(" + a + ", " + b + ", 0)", x.pave(a, b, 0), was);
                    due.is("pave(" + b + ", " + a + ", 9)", x.pave(b, a, 9), 0);
                    due.is("street(" + a + ", " + b + ")", x.street(a, b), 9);
                    due.is("pave(" + a + ", " + b + ", as it was)", x.pave(a, b, was), 9);
                }
            }
        }
        due.same("all as it was", Seen.town(x), Seen.town(Towns.of(text(6, 1))));
    }

    private static void farToItself() {
        due.sentence("FAR: 0 to itself");
        for (String text : new String[] {Towns.FOUR, "t6000000000000000;b001", text(6, 1)}) {
            PromiseWalk x = Towns.of(text);
            for (int a = 0; a < x.many(1); a++) {
                due.is(text + ": far(" + a + ", itself)", x.far(a, a), 0);
            }
        }
    }

    private static void farByTheLeastLengths() {
        due.sentence("FAR: the least LENGTHS together of STREETS by which one comes there");
        PromiseWalk x = Towns.of("t6900019100010010;b001");
        // 0 -1- 5 -1- 3 -1- 1 -9- 2 -1- 4, and 0 -9- 1.
        int[] want = {0, 3, 12, 2, 13, 1};
        for (int b = 0; b < 6; b++) {
            due.is("far(0, " + b + ")", x.far(0, b), want[b]);
            due.is("far(" + b + ", 0)", x.far(b, 0), want[b]);
        }
        PromiseWalk ring = Towns.of("t6100091000100101;b001");
        for (int b = 1; b < 6; b++) {
            due.is("round the ring: far(0, " + b + ")", ring.far(0, b), b);
        }
        due.is("a shorter STREET of 4", ring.pave(0, 5, 4), 9);
        due.is("it is taken", ring.far(0, 5), 4);
        due.is("a longer row ahead of one STREET", Towns.of("t3911;b001").far(0, 1), 2);
        due.is("as long", Towns.of("t3211;b001").far(0, 1), 2);
        due.is("one STREET ahead of a longer row", Towns.of("t3111;b001").far(0, 1), 1);
    }

    private static void farNone() {
        due.sentence("FAR: NONE, there are none");
        PromiseWalk x = Towns.of("t4100001;b001");
        int[][] want = {{0, 1, -9, -9}, {1, 0, -9, -9}, {-9, -9, 0, 1}, {-9, -9, 1, 0}};
        for (int a = 0; a < 4; a++) {
            for (int b = 0; b < 4; b++) {
                due.is("far(" + a + ", " + b + ")", x.far(a, b), want[a][b]);
            }
        }
    }

    private static void arrivedAsStreetsAreNow() {
        due.sentence("ARRIVED: as STREETS are now");
        PromiseWalk x = Towns.of("t3599;b015");
        x.days(1);
        due.is("it has ARRIVED", x.ofFootman(0, 7), 1);
        x.pave(0, 1, 6);
        due.is("a longer STREET", x.ofFootman(0, 7), 0);
        due.is("many(3)", x.many(3), 0);
        x.pave(0, 2, 1);
        x.pave(1, 2, 4);
        due.is("another way as long as it WALKED", x.ofFootman(0, 7), 1);
        x.pave(1, 2, 5);
        due.is("a way one longer", x.ofFootman(0, 7), 0);
        x.pave(0, 1, 1);
        due.is("a shorter STREET", x.ofFootman(0, 7), 1);
        x.pave(0, 1, 0);
        x.pave(0, 2, 0);
        due.is("none", x.ofFootman(0, 7), 0);
    }

    private static void arrivedByNoLess() {
        due.sentence("ARRIVED is a FOOTMAN that has WALKED no less than it is FAR");
        due.is("one less", behindADay("t29;b018"), 0);
        due.is("as much", behindADay("t29;b019"), 1);
        due.is("one more", behindADay("t29;m019"), 1);
        due.is("who goes nowhere has ARRIVED at once", Towns.of("t20;b001").ofFootman(0, 7), 1);
        due.is("who goes on a STREET of 1 has not", Towns.of("t21;b011").ofFootman(0, 7), 0);
    }

    private static int behindADay(String text) {
        PromiseWalk x = Towns.of(text);
        x.days(1);
        return x.ofFootman(0, 7);
    }
}
