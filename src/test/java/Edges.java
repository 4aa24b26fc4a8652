/** What the tests of boundary cases share: objects to begin with, and ways to hold answers against what is due. */
abstract class Edges {
    static final int BAD = -1, FULL = -2, NONE = -3, STATE = -4;
    static final int MISSING = -11, OUTSIDE = -12, OTHER = -13, BELOW = -14, BY_ZERO = -15;
    static final int MIN = Integer.MIN_VALUE, MAX = Integer.MAX_VALUE;
    static final int BRIDGE = 1, VALVE = 2, PAIR = 3, STORE = 4, SOURCE = 5;

    interface Call {
        int on(SizedParts x);
    }

    interface Maker {
        SizedParts make();
    }

    private int asked = 0, wrong = 0;
    private String test = "";

    void begin(String name) {
        test = name;
        asked = 0;
        wrong = 0;
    }

    boolean passed() {
        if (asked == 0) System.out.println(test + ": nothing was asked");
        return asked > 0 && wrong == 0;
    }

    // ---- answers

    void is(String what, int got, int due) {
        asked++;
        if (got == due) return;
        wrong++;
        System.out.println(test + ": " + what + " answered " + got + ", due is " + due);
    }

    /** A call on rich() answers a refusal, and nothing is otherwise behind it. */
    void refused(String what, int due, Call call) {
        refused(what, due, Edges::rich, call);
    }

    /** The same on an object of one's own: one that was refused a call, and one that was not, tell the same. */
    void refused(String what, int due, Maker maker, Call call) {
        SizedParts x = maker.make();
        is(what, call.on(x), due);
        String left = Told.by(x), before = Told.by(maker.make());
        asked++;
        if (left.equals(before)) return;
        wrong++;
        System.out.println(test + ": " + what + " changed something\n  before: " + before + "\n  behind: " + left);
    }

    /** The nearest and the farthest numbers that are not least to most. */
    static int[] outside(int least, int most) {
        return new int[] {least - 1, most + 1, MIN, MAX};
    }

    // ---- objects

    static int state(int two, int three, int four) {
        return two * 441 + three * 21 + four;
    }

    /** A SHEET of bytes with v[i] for each i. */
    static void bytes(SizedParts x, int sheet, int... v) {
        x.sheet(sheet, 0, v.length);
        for (int i = 0; i < v.length; i++) x.put(sheet, i, v[i]);
    }

    /** A SHEET of shorts with v[i] for each i. */
    static void shorts(SizedParts x, int sheet, int... v) {
        x.sheet(sheet, 1, v.length);
        for (int i = 0; i < v.length; i++) x.put(sheet, i, v[i]);
    }

    static int[] line() {
        int[] v = new int[21];
        for (int i = 0; i < 21; i++) v[i] = i;
        return v;
    }

    /** A new one with SHEET 0 and TABLE 0: d for d. */
    static SizedParts withLine() {
        SizedParts x = new SizedParts();
        bytes(x, 0, line());
        x.table(0);
        return x;
    }

    /** A new one with SOURCES of these SIZES from THE FEED to the ground: what they let through is their SIZE. */
    static SizedParts withSources(int... sizes) {
        SizedParts x = new SizedParts();
        for (int size : sizes) x.part(SOURCE, 10, size, 0, 0);
        return x;
    }

    /**
     * A new one with a BRIDGE from THE FEED to the ground, whose FLOW is another one in each CORNER:
     * 40 45 49, 81 90 99, 121 135 148 (9 times 5, 10, 15; a tenth less, more).
     */
    static SizedParts withNineFlows() {
        SizedParts x = withLine();
        x.part(BRIDGE, 10, 9, 56, 0);
        return x;
    }

    static final int[] NINE_FLOWS = {40, 45, 49, 81, 90, 99, 121, 135, 148};

    /** One that has some of everything: all KINDS, broken ones, all sorts of rows, a TAPE, a TRACE, something kept. */
    static SizedParts rich() {
        SizedParts x = withLine();
        x.put(0, 0, 7);
        x.put(0, 20, 30);
        x.table(0);
        x.part(BRIDGE, 12, 2, 25, 0);
        x.part(BRIDGE, 20, 1, 25, 0);
        x.part(VALVE, 23, 4, 105, 4);
        x.part(PAIR, 34, 2, 17, 22);
        x.part(STORE, 20, 9, 0, 0);
        x.part(SOURCE, 14, 3, 0, 0);
        x.breaks(5, 1);
        x.open(0, 1, 3);
        x.open(5, 2, 4);
        x.change(5, 2);
        x.change(0, 1);
        x.measured(2, 5);
        x.start(state(1, 2, 3));
        x.feedAt(11);
        type(x, "wish node 2 < 21;wish flow 9 = 0;");
        x.read();
        x.prove();
        shorts(x, 1, 3, 10, 9);
        x.sheet(2, 3, 1);
        x.put(2, 0, -77);
        x.shelf(0, 0, 3);
        x.shelf(1, 1, 1);
        x.shelf(2, 0, 5);
        x.act(0, 3, 7);
        x.keep();
        x.size(1, 5);
        type(x, "wish flow 0 + flow 5 > 1;");
        return x;
    }

    // ---- texts

    static void type(SizedParts x, String text) {
        for (int at = 0; at < text.length(); at += 8) {
            int n = Math.min(8, text.length() - at);
            long eight = 0;
            for (int i = 0; i < n; i++) eight |= (long) text.charAt(at + i) << 8 * i;
            x.feed(eight, n);
        }
    }

    static int read(SizedParts x, String text) {
        type(x, text);
        return x.read();
    }

    /** WISHES of an object, which must be as many as are told. */
    void wishes(SizedParts x, int many, String text) {
        is("read of '" + text + "'", read(x, text), many);
    }

    void fault(String text, int place) {
        is("read of '" + text + "'", read(new SizedParts(), text), -100 - place);
    }

    void isText(String text, int wishes) {
        is("read of '" + text + "'", read(new SizedParts(), text), wishes);
    }
}
