/** Makes objects with a TOWN in them. */
final class Towns {
    static final int BYTES = 0, SHORTS = 1, INTS = 2;

    /** 0 -2- 1 -3- 2 -4- 3, and 0 -5- 2: two ways from 0 to 2; nothing but CORNER 2 leads to 3. */
    static final String FOUR = "t4250304;b023;m301;p224;b131";

    /** Two CORNERS of six hang together, the other four by themselves. */
    static final String TORN = "t6100000000111111;b011;b051;m551";

    /** A TEXT: STREETS as "01:3 02:5", all others of one LENGTH. */
    static String text(int corners, char others, String streets, String footmen) {
        StringBuilder text = new StringBuilder("t").append(corners);
        for (int a = 0; a < corners; a++) {
            for (int b = a + 1; b < corners; b++) {
                int told = streets.indexOf("" + a + b + ":");
                text.append(told < 0 ? others : streets.charAt(told + 3));
            }
        }
        return text.append(footmen).toString();
    }

    static PromiseWalk of(String text) {
        PromiseWalk x = new PromiseWalk();
        write(x, 0, BYTES, text);
        x.town(0, BYTES, 0, text.length());
        return x;
    }

    static void write(PromiseWalk x, int sheet, int lane, String text) {
        x.sheet(sheet, lane, text.length());
        for (int i = 0; i < text.length(); i++) {
            x.put(sheet, i, text.charAt(i));
        }
    }

    static void row(PromiseWalk x, int sheet, int lane, int... numbers) {
        x.sheet(sheet, lane, numbers.length);
        for (int i = 0; i < numbers.length; i++) {
            x.put(sheet, i, numbers[i]);
        }
    }

    /** What town answers to a text on a new object. */
    static int told(String text) {
        PromiseWalk x = new PromiseWalk();
        write(x, 1, SHORTS, text);
        return x.town(1, SHORTS, 0, text.length());
    }

    /** SHEETS of each sort: 0 the bytes of FOUR, 1 five ints, 2 shorts, but none of them, 3 nothing. */
    private static void sheets(PromiseWalk x) {
        write(x, 0, BYTES, FOUR);
        row(x, 1, INTS, 0, 2, 9, 9, 70001);
        x.sheet(2, SHORTS, 0);
    }

    /** No TOWN, but SHEETS. */
    static PromiseWalk bare() {
        PromiseWalk x = new PromiseWalk();
        sheets(x);
        return x;
    }

    /** The TOWN of FOUR on its third DAY, with five FOOTMEN of whom two SIT, two READINGS, and a TRACE. */
    static PromiseWalk busy() {
        PromiseWalk x = bare();
        x.town(0, BYTES, 0, FOUR.length());
        x.sit(1);
        x.days(1);
        x.give(2, 1, 3, 9);
        x.sit(2);
        x.days(2);
        x.reading(0, 1, 3);
        x.reading(4, 2, 10);
        x.tell(1);
        x.ring(2);
        return x;
    }

    /** As busy, but with six FOOTMEN and eight READINGS. */
    static PromiseWalk full() {
        PromiseWalk x = busy();
        x.give(1, 0, 2, 2);
        for (int number = 2; number < 8; number++) {
            x.reading(number - 2, 0, 0);
        }
        return x;
    }
}
