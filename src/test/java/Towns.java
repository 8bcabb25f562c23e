/** Makes objects with a TOWN in them. */
final class Towns {
    static final int BYTES = 0, SHORTS = 1, INTS = 2;

    /** 0 -2- 1 -3- 2 -4- 3, and 0 -5- 2: two ways from 0 to 2; nothing but CORNER 2 leads to 3. */
    static final String FOUR = "t4250304;b023;m301;p224;b131";

    /** Two CORNERS of six hang together, the other four by themselves. */
    static final String TORN = "t6100000000111111;b011;b051;m551";

    static PromiseWalk of(String text) {
        PromiseWalk x = new PromiseWalk();
        write(x, 0, BYTES, text);
        x.town(0, BYTES, 0, text.length());
        return x;
    }

    static void write(PromiseWalk x, int sheet, int lane, String text) {
        x.sheet(sheet, lane, text.length());
        for (int i = 0; i < text.length(); i++) {
            x.put(sheet, i, text.charAt(i));
        }
    }

    static void row(PromiseWalk x, int sheet, int lane, int... numbers) {
        x.sheet(sheet, lane, numbers.length);
        for (int i = 0; i < numbers.length; i++) {
            x.put(sheet, i, numbers[i]);
        }
    }

    /** What town answers to a text on a new object. */
    static int told(String text) {
        PromiseWalk x = new PromiseWalk();
        write(x, 1, SHORTS, text);
        return x.town(1, SHORTS, 0, text.length());
    }
}
