import java.lang.reflect.Method;

/** One test for each promise of the document, p1 to p43, with answers that were reckoned by hand. */
public final class PromiseTests {
    private static final int MIN = Integer.MIN_VALUE, MAX = Integer.MAX_VALUE;
    private static String test = "";
    private static int wrong = 0;

    public static void main(String[] args) throws Exception {
        int passed = 0, failed = 0;
        for (int i = 1; i <= 43; i++) {
            test = "p" + i;
            wrong = 0;
            Method m = PromiseTests.class.getDeclaredMethod(test);
            m.invoke(null);
            if (wrong == 0) passed++;
            else failed++;
        }
        System.out.println(passed + " passed, " + failed + " failed");
        if (failed > 0) System.exit(1);
    }

    // ---- helpers

    private static void is(String what, int got, int due) {
        if (got == due) return;
        wrong++;
        System.out.println(test + ": " + what + " answered " + got + ", due is " + due);
    }

    private static int state(int two, int three, int four) {
        return two * 441 + three * 21 + four;
    }

    /** A SHEET of bytes with v[i] for each i. */
    private static void bytes(SizedParts x, int sheet, int... v) {
        is("sheet", x.sheet(sheet, 0, v.length), 1);
        for (int i = 0; i < v.length; i++) is("put", x.put(sheet, i, v[i]), 1);
    }

    private static int[] line(int times, int by) {
        int[] v = new int[21];
        for (int i = 0; i < 21; i++) v[i] = i * times / by;
        return v;
    }

    /** A new one with TABLE 0: d for d. */
    private static SizedParts withLine() {
        SizedParts x = new SizedParts();
        bytes(x, 0, line(1, 1));
        is("table", x.table(0), 0);
        return x;
    }

    /** The feed (10) by a bridge of SIZE 2 to node 2, and by one of SIZE 1 on to the ground; both ERR 2. */
    private static SizedParts withTwo() {
        SizedParts x = withLine();
        is("part", x.part(1, 12, 2, 25, 0), 0);
        is("part", x.part(1, 20, 1, 25, 0), 1);
        return x;
    }

    /**
     * A bridge from the feed to the ground, ERR 1, WARM 1, so that its FLOW hangs on the CORNER
     * alone: 8 9 9, 9 10 11, 9 11 12.
     */
    private static SizedParts withCorners() {
        SizedParts x = withLine();
        is("part", x.part(1, 10, 1, 16, 0), 0);
        return x;
    }

    private static void type(SizedParts x, String text) {
        for (int at = 0; at < text.length(); at += 8) {
            int n = Math.min(8, text.length() - at);
            long eight = 0;
            for (int i = 0; i < n; i++) eight |= (long) text.charAt(at + i) << 8 * i;
            is("feed", x.feed(eight, n), at + n);
        }
    }

    private static int read(SizedParts x, String text) {
        type(x, text);
        return x.read();
    }

    /** A new one with WISHES alone. */
    private static void fault(String text, int place) {
        SizedParts x = new SizedParts();
        is("read of 1", read(x, "wish 1 = 2;"), 1);
        is("read of '" + text + "'", read(x, text), -100 - place);
        is("wishes stay", x.many(2), 1);
        is("missed stays", x.missed(), 1);
        is("the tape is used up", x.many(6), 0);
    }

    private static void holds(String cond, boolean due) {
        SizedParts x = new SizedParts();
        is("read of " + cond, read(x, "wish " + cond + ";"), 1);
        is(cond, x.holds(4), due ? 1 : 0);
    }

    // ---- a new object; tables, parts

    static void p1() {
        SizedParts x = new SizedParts();
        for (int what = 0; what <= 10; what++) is("many " + what, x.many(what), what == 8 ? 10 : 0);
        is("again", x.again(), -3);
        is("missed", x.missed(), 0);
        is("holds", x.holds(0), 0);
        is("row", x.row(0, 0), -9);
        is("trace", x.trace(0), -3);
        for (int i = 0; i < 4; i++) {
            is("item", x.item(i, 0, 0), -11);
            is("taken", x.taken(i, 0), -11);
        }
        for (int node = 2; node <= 4; node++) is("measured", x.measured(node, -1), -1);
        is("goes", x.goes(0, 0), 0);
        is("rests", x.rests(8), 9261);
        is("BAD", SizedParts.BAD, -1);
        is("FULL", SizedParts.FULL, -2);
        is("NONE", SizedParts.NONE, -3);
        is("STATE", SizedParts.STATE, -4);
    }

    static void p2() {
        SizedParts x = new SizedParts();
        is("missing", x.table(0), -11);
        is("none such", x.table(4), -1);
        is("none such", x.table(-1), -1);
        is("none such", x.table(MIN), -1);
        for (int sort = 1; sort <= 3; sort++) {
            x.sheet(1, sort, 21);
            is("of sort " + sort, x.table(1), -13);
        }
        x.sheet(0, 0, 20);
        is("20", x.table(0), -4);
        x.sheet(0, 0, 22);
        is("22", x.table(0), -4);
        x.sheet(0, 0, 0);
        is("0", x.table(0), -4);
        bytes(x, 0, line(3, 2));
        is("0 to 30", x.table(0), 0);
        x.put(0, 20, 31);
        is("31", x.table(0), -4);
        x.put(0, 20, 30);
        x.put(0, 0, -1);
        is("-1", x.table(0), -4);
        x.put(0, 0, 256);
        is("256, narrowed", x.table(0), 1);
        is("third", x.table(0), 2);
        is("many", x.many(1), 3);
        is("fourth", x.table(0), 3);
        is("fifth", x.table(0), -2);
        is("the first named", x.table(1), -13);
        is("the first named", x.table(3), -11);
        is("the first named", x.table(9), -1);
        x.put(0, 0, 77);
        is("the first named", x.table(0), -4);
        is("many", x.many(1), 4);
        // what the sheet becomes later counts nothing
        is("part", x.part(1, 12, 1, 5, 0), 0);
        is("flow", x.flow(0, 0, 4), 15);
    }

    static void p3() {
        SizedParts x = withLine();
        is("part before its table", x.part(1, 12, 1, 100, 0), -1);
        is("kind 0", x.part(0, 12, 1, 5, 0), -1);
        is("kind 6", x.part(6, 12, 1, 5, 0), -1);
        is("kind", x.part(MIN, 12, 1, 5, 0), -1);
        for (int ends : new int[] {0, 11, 22, 44, 5, 15, 50, 51, -1, -12, 45, 99, 112, MAX, MIN}) {
            is("ends " + ends, x.part(5, ends, 1, 0, 0), -1);
        }
        for (int size : new int[] {0, 10, -1, MAX, MIN}) is("size " + size, x.part(5, 12, size, 0, 0), -1);
        for (int law : new int[] {-1, 60, 65, 99, 100, 400, MIN, MAX}) {
            is("law " + law, x.part(1, 12, 1, law, 0), -1);
            is("law of a valve " + law, x.part(2, 12, 1, law, 0), -1);
        }
        for (int gate : new int[] {5, 9, 10, 14, -1, MIN, MAX}) is("gate " + gate, x.part(2, 12, 1, 0, gate), -1);
        is("a pair without a twin", x.part(3, 12, 1, 0, 0), -1);
        is("bridge", x.part(1, 43, 9, 59, MIN), 0);
        is("a bridge is no twin", x.part(3, 12, 1, 0, 0), -1);
        is("valve", x.part(2, 12, 1, 0, 4), 1);
        is("pair", x.part(3, 12, 2, 0, 10), 2);
        is("pair of a pair", x.part(3, 12, 3, 0, 24), 3);
        is("a pair isn't ahead of itself", x.part(3, 12, 3, 0, 44), -1);
        is("gate of a pair", x.part(3, 12, 3, 0, 15), -1);
        is("gate of a pair", x.part(3, 12, 3, 0, -1), -1);
        is("store", x.part(4, 1, 1, MIN, MAX), 4);
        is("source", x.part(5, 10, 9, -7, -7), 5);
        is("a store is no twin", x.part(3, 12, 3, 0, 40), -1);
        is("a source is no twin", x.part(3, 12, 3, 0, 50), -1);
        for (int i = 6; i < 10; i++) is("store", x.part(4, 34, 1, 0, 0), i);
        is("eleventh", x.part(4, 34, 1, 0, 0), -2);
        is("the first named", x.part(4, 33, 1, 0, 0), -1);
        is("a twin outside", x.part(3, 12, 3, 0, 100), -1);
        is("many", x.many(0), 10);
    }

    static void p4() {
        SizedParts x = withLine();
        bytes(x, 0, line(1, 2));
        x.table(0);
        x.part(1, 43, 9, 159, 0);
        x.part(2, 10, 1, 32, 4);
        x.part(3, 4, 2, 0, 13);
        x.part(4, 23, 3, 123, 4);
        x.part(5, 32, 4, 123, 4);
        x.part(1, 32, 4, 100, 4);
        int[][] due = {
            {1, 43, 9, 0, 1, 5, 9, -9, -9},
            {2, 10, 1, 0, 0, 3, 2, 4, -9},
            {3, 4, 2, 0, 0, 0, 0, 3, 1},
            {4, 23, 3, 0, -9, -9, -9, -9, -9},
            {5, 32, 4, 0, -9, -9, -9, -9, -9},
            {1, 32, 4, 0, 1, 0, 0, -9, -9}};
        for (int p = 0; p < 6; p++) {
            for (int what = 0; what <= 8; what++) is("partOf " + p + " " + what, x.partOf(p, what), due[p][what]);
        }
        x.breaks(4, 2);
        is("broken", x.partOf(4, 3), 2);
        is("no such part", x.partOf(6, 0), -1);
        is("no such part", x.partOf(-1, 0), -1);
        is("no such part", x.partOf(MAX, 4), -1);
        is("another what", x.partOf(0, 9), -1);
        is("another what", x.partOf(3, -1), -1);
    }

    static void p5() {
        SizedParts x = withTwo();
        is("size", x.size(0, 9), 2);
        is("size", x.size(0, 1), 9);
        is("told", x.partOf(0, 2), 1);
        is("flow", x.flow(0, 0, 4), 10);
        is("the other stays", x.partOf(1, 2), 1);
        for (int bad : new int[] {0, 10, -1, MIN, MAX}) is("size " + bad, x.size(0, bad), -1);
        for (int bad : new int[] {2, -1, MIN, MAX}) is("part " + bad, x.size(bad, 1), -1);
        is("told", x.partOf(0, 2), 1);
    }

    static void p6() {
        SizedParts x = withTwo();
        is("breaks", x.breaks(0, 1), 0);
        is("open", x.flow(0, 0, 4), 0);
        is("breaks", x.breaks(0, 2), 1);
        is("shut", x.flow(0, 0, 4), 400);
        is("many", x.many(10), 1);
        is("breaks", x.breaks(0, 0), 2);
        is("whole", x.flow(0, 0, 4), 20);
        for (int bad : new int[] {3, -1, MIN, MAX}) is("how " + bad, x.breaks(0, bad), -1);
        for (int bad : new int[] {2, -1, MIN, MAX}) is("part " + bad, x.breaks(bad, 0), -1);
        is("many", x.many(10), 0);
    }

    static void p7() {
        SizedParts x = withLine();
        x.part(5, 12, 4, 0, 0);
        x.part(1, 20, 1, 5, 0);
        x.start(state(20, 0, 0));
        x.open(0, 1, 2);
        x.open(1, 3, 4);
        x.change(1, 0);
        x.change(0, 1);
        x.change(1, 2);
        x.change(0, 2);
        x.breaks(1, 2);
        is("drop", x.drop(), 1);
        is("open ones", x.many(3), 1);
        is("changes", x.many(4), 2);
        is("broken ones", x.many(10), 0);
        is("none such", x.partOf(1, 0), -1);
        // what is left are the changes of part 0: its nodes, and then its size
        is("wish", read(x, "wish node 2 = 0;"), 1);
        is("help", x.help(), 1);
        is("wish", read(x, "wish flow 0 = 6;"), 1);
        is("help", x.help(), 2);
        is("a new one isn't open", x.part(5, 12, 3, 0, 0), 1);
        is("open ones", x.many(3), 1);
        is("a new one is whole", x.partOf(1, 3), 0);
        is("drop", x.drop(), 1);
        is("drop", x.drop(), 0);
        is("changes", x.many(4), 0);
        is("open ones", x.many(3), 0);
        is("drop", x.drop(), -3);
        is("tables stay", x.many(1), 1);
    }

    static void p8() {
        SizedParts x = withTwo();
        is("feedAt", x.feedAt(20), 10);
        is("feedAt", x.feedAt(0), 20);
        is("feedAt", x.feedAt(7), 0);
        is("flow", x.flow(0, 0, 4), 14);
        is("many", x.many(8), 7);
        for (int bad : new int[] {21, -1, MIN, MAX}) is("feedAt " + bad, x.feedAt(bad), -1);
        is("many", x.many(8), 7);
    }

    static void p9() {
        SizedParts x = withTwo();
        is("start", x.start(9260), 0);
        is("start", x.start(state(6, 1, 2)), 9260);
        is("many", x.many(9), state(6, 1, 2));
        is("goes", x.goes(4, 0), state(6, 1, 2));
        for (int bad : new int[] {9261, -1, MIN, MAX}) is("start " + bad, x.start(bad), -1);
        is("start", x.start(0), state(6, 1, 2));
    }

    // ---- ticks, rests

    static void p10() {
        SizedParts x = withLine();
        bytes(x, 0, 7, 1, 2, 3, 5, 5, 5, 5, 5, 5, 5, 5, 5, 5, 5, 5, 5, 5, 5, 5, 30);
        is("table", x.table(0), 1);
        is("bridge", x.part(1, 12, 2, 25, 0), 0); // ERR 2, WARM 0
        is("off as it is made", x.flow(0, 0, 0), 16);
        is("off as it is made", x.flow(0, 0, 4), 20);
        is("off as it is made", x.flow(0, 0, 7), 24);
        is("0 at least", x.flow(0, state(9, 0, 0), 1), 0);
        is("back", x.flow(0, state(20, 0, 0), 7), -24);
        is("level", x.flow(0, state(10, 0, 0), 7), 0);
        is("bridge", x.part(1, 23, 1, 107, 0), 1); // TABLE 1, WARM 2
        is("cold", x.flow(1, state(4, 0, 0), 3), 4);
        is("hot", x.flow(1, state(4, 0, 0), 5), 6);
        is("cut", x.flow(1, state(3, 0, 0), 3), 2);
        is("cut, back", x.flow(1, state(0, 3, 0), 3), -2);
        is("cut, back", x.flow(1, state(0, 3, 0), 5), -3);
        is("no fall, though the table has 7", x.flow(1, 0, 5), 0);
        is("the last number", x.flow(1, state(20, 0, 0), 4), 30);
        is("bridge", x.part(1, 34, 3, 0, 0), 2); // WARM -5
        is("cold", x.flow(2, state(0, 3, 0), 0), 13);
        is("hot", x.flow(2, state(0, 3, 0), 2), 4);
        is("valve", x.part(2, 23, 1, 5, 4), 3);
        is("gate 0", x.flow(3, state(5, 0, 0), 4), 0);
        is("gate 3", x.flow(3, state(5, 0, 3), 4), 1);
        is("gate 3, back", x.flow(3, state(0, 5, 3), 4), -1);
        is("gate 10", x.flow(3, state(5, 0, 10), 4), 5);
        is("gate 20", x.flow(3, state(5, 0, 20), 4), 5);
        is("valve gated by the ground", x.part(2, 23, 9, 5, 0), 4);
        is("gate 0", x.flow(4, state(20, 0, 20), 8), 0);
        is("pair", x.part(3, 32, 9, 5, 31), 5); // TWIN 3, gated by the feed
        is("size of its twin", x.flow(5, state(0, 5, 3), 4), 5);
        is("size", x.size(3, 4), 1);
        is("size of its twin", x.flow(5, state(0, 5, 3), 4), 20);
        is("pair of a pair", x.part(3, 32, 2, 5, 51), 6);
        is("its twin's own size", x.flow(6, state(0, 5, 3), 4), 45);
        x.feedAt(4);
        is("gate by the feed", x.flow(6, state(0, 5, 3), 4), 18);
        x.breaks(5, 1);
        is("a broken twin has its size", x.flow(6, state(0, 5, 3), 4), 18);
        is("store", x.part(4, 21, 9, 0, 0), 7);
        is("store", x.flow(7, state(20, 0, 0), 4), 0);
        is("source", x.part(5, 20, 6, 0, 0), 8);
        is("source", x.flow(8, 0, 0), 6);
        for (int p = 0; p <= 8; p++) {
            x.breaks(p, 1);
            is("open " + p, x.flow(p, state(3, 17, 5), 8), 0);
            x.breaks(p, 2);
        }
        int[] falls = {4 - 3, 3 - 17, 17 - 5, 3 - 17, 3 - 17, 17 - 3, 17 - 3, 0, 3};
        for (int p = 0; p <= 8; p++) is("shut " + p, x.flow(p, state(3, 17, 5), 8), 40 * falls[p]);
        for (int bad : new int[] {-1, 9, MIN, MAX}) is("part " + bad, x.flow(bad, 0, 0), -999999);
        for (int bad : new int[] {-1, 9261, MIN, MAX}) is("state " + bad, x.flow(0, bad, 0), -999999);
        for (int bad : new int[] {-1, 9, MIN, MAX}) is("corner " + bad, x.flow(0, 0, bad), -999999);
    }

    static void p11() {
        SizedParts x = withTwo();
        is("tick", x.tick(0, 4), state(5, 0, 0));
        is("cut", x.tick(state(5, 3, 4), 4), state(6, 3, 4)); // 10 less 5, by 4
        is("cut towards 0", x.tick(state(7, 0, 0), 4), state(7, 0, 0)); // 6 less 7, by 4
        is("down", x.tick(state(20, 0, 0), 4), state(10, 0, 0)); // 40 by 4
        is("making 2", x.tick(0, 8), state(6, 0, 0));
        x.part(4, 42, 3, 0, 0);
        is("a store", x.tick(0, 4), state(2, 0, 0)); // 20 by 7
        x.part(4, 21, 9, 0, 0);
        is("two stores", x.tick(0, 4), state(1, 0, 0)); // 20 by 16
        x.breaks(3, 1);
        x.breaks(2, 2);
        is("broken stores", x.tick(0, 4), state(5, 0, 0));
        x.part(5, 34, 9, 0, 0);
        is("a source, all at once", x.tick(state(6, 5, 5), 4), state(6, 3, 7));
        is("0 at least", x.tick(state(6, 1, 5), 4), state(6, 0, 7));
        is("20 at most", x.tick(state(6, 5, 19), 4), state(6, 3, 20));
        x.part(5, 10, 9, 0, 0);
        is("feed and ground stay", x.tick(state(6, 5, 5), 4), state(6, 3, 7));
        for (int bad : new int[] {-1, 9261, MIN, MAX}) is("state " + bad, x.tick(bad, 0), -1);
        for (int bad : new int[] {-1, 9, MIN, MAX}) is("corner " + bad, x.tick(0, bad), -1);
    }

    static void p12() {
        SizedParts x = withTwo();
        is("end", x.goes(4, 0), state(6, 0, 0));
        is("pace", x.goes(4, 1), 2);
        is("ring", x.goes(4, 2), 1);
        x.start(state(20, 9, 8));
        is("end", x.goes(4, 0), state(7, 9, 8)); // 20, 10, 8, 7: 10 less 10 by 4 ..
        is("pace", x.goes(4, 1), 3);
        is("many", x.many(9), state(20, 9, 8));
        x.start(state(6, 0, 0));
        is("at rest", x.goes(4, 1), 0);
        is("at rest", x.goes(4, 2), 1);
        // a shut part throws node 2 to and fro: 0, 20, 0
        x.start(0);
        x.breaks(0, 2);
        x.breaks(1, 1);
        is("end", x.goes(0, 0), 0);
        is("pace", x.goes(0, 1), 0);
        is("ring", x.goes(0, 2), 2);
        x.start(state(4, 0, 0));
        is("4, 20, 0, 20", x.goes(0, 0), state(20, 0, 0));
        is("pace", x.goes(0, 1), 1);
        is("ring", x.goes(0, 2), 2);
        for (int bad : new int[] {-1, 3, MIN, MAX}) is("what " + bad, x.goes(0, bad), -1);
        for (int bad : new int[] {-1, 9, MIN, MAX}) is("corner " + bad, x.goes(bad, 0), -1);
    }

    static void p13() {
        SizedParts x = withTwo();
        is("6 and 7, with all of 3 and 4", x.rests(4), 882);
        // 3 hangs on 2 and 4 on 3, each by a bridge
        x.part(1, 23, 4, 5, 0);
        x.part(1, 34, 4, 5, 0);
        // all three alike at 6 or 7, but what goes from 2 to 3 counts for 2 as well
        is("6 6 6, 7 7 7", x.rests(4), 2);
        x.part(5, 13, 4, 0, 0);
        is("a source", x.tick(state(6, 6, 6), 4), state(6, 7, 6));
        SizedParts y = withLine();
        y.part(5, 12, 4, 0, 0);
        is("only what is full", y.rests(0), 441);
        y.part(5, 30, 4, 0, 0);
        is("full, empty", y.rests(0), 21);
        y.breaks(0, 2);
        is("at the feed's level", y.rests(8), 21);
        y.part(5, 12, 4, 0, 0);
        is("nowhere", y.rests(8), 0);
        // gated by node 4 at g, node 2 stays d off the feed if d times g is below 10:
        // 21, 19, 9, 7, 5, 3, 3, 3, 3, 3 for g 0 to 9, and 1 for 10 to 20, each with all of node 3
        SizedParts z = withLine();
        z.part(2, 12, 4, 5, 4);
        is("gated", z.rests(4), 87 * 21);
        z.part(5, 1, 9, 0, 0);
        z.part(4, 34, 9, 0, 0);
        is("what touches no inner node, a store", z.rests(4), 87 * 21);
        for (int bad : new int[] {-1, 9, MIN, MAX}) is("corner " + bad, x.rests(bad), -1);
    }

    static void p14() {
        SizedParts x = withTwo();
        is("first", x.restAt(4, 0), state(6, 0, 0));
        is("second", x.restAt(4, 1), state(6, 0, 1));
        is("last of 6", x.restAt(4, 440), state(6, 20, 20));
        is("first of 7", x.restAt(4, 441), state(7, 0, 0));
        is("last", x.restAt(4, 881), state(7, 20, 20));
        is("none", x.restAt(4, 882), -3);
        is("none", x.restAt(4, -1), -3);
        is("none", x.restAt(4, MAX), -3);
        is("none", x.restAt(4, MIN), -3);
        is("the first named", x.restAt(9, -1), -1);
        is("corner", x.restAt(-1, 0), -1);
    }

    static void p15() {
        SizedParts x = withTwo();
        is("node 2", x.gain(2, 4), 1); // with 11: 0, 5, 6, 7 (22 by 4, 12 less 5, 10 less 6)
        is("node 3", x.gain(3, 4), 0);
        is("the feed", x.gain(1, 4), 1);
        is("the ground", x.gain(0, 4), 0);
        is("the feed stays", x.many(8), 10);
        x.feedAt(19);
        is("19", x.gain(1, 0), 1);
        x.feedAt(20);
        is("20", x.gain(2, 0), -98);
        for (int bad : new int[] {-1, 5, MIN, MAX}) is("node " + bad, x.gain(bad, 0), -99);
        for (int bad : new int[] {-1, 9, MIN, MAX}) is("corner " + bad, x.gain(0, bad), -99);
        x.feedAt(10);
        x.breaks(0, 2);
        x.breaks(1, 1);
        x.start(state(11, 0, 0));
        // 11, 1, 20, 0, 20 with 10; at rest with 11
        is("below 0", x.gain(2, 4), -9);
    }

    // ---- wishes

    static void p16() {
        SizedParts x = new SizedParts();
        is("feed", x.feed(0x3b3d31L, 1), 1);
        is("n 0", x.feed(0, 0), -1);
        is("n 9", x.feed(0, 9), -1);
        is("n", x.feed(0, MIN), -1);
        is("feed", x.feed(-1L, 8), 9);
        is("read", x.read(), -100);
        // the lowest first: "wish 1=1" and ";"
        is("feed", x.feed(0x313d312068736977L, 8), 8);
        is("feed", x.feed(0x7777777777777700L | ';', 1), 9);
        is("read", x.read(), 1);
        for (int i = 1; i <= 27; i++) is("feed", x.feed(0x2020202020202020L, 8), 8 * i);
        is("full", x.feed(0, 5), -2);
        is("the first named", x.feed(0, 9), -1);
        is("many", x.many(6), 216);
        is("up to 220", x.feed(0x20202020L, 4), 220);
        is("full", x.feed(0, 1), -2);
        is("blanks alone", x.read(), 0);
        is("feed", x.feed(0x20, 1), 1);
    }

    static void p17() {
        SizedParts x = new SizedParts();
        is("nothing", x.read(), 0);
        is("two", read(x, "wish 1 = 1;wish not (2 < 3 or 4 > 5) and pace + ring + feed + node 0 + flow 9 = 999 ;"), 2);
        is("no blank needed", read(x, "wish1=1and2=2or not(3=3);wish(node4=flow9);"), 2);
        is("zeros", read(x, "  wish 007 = node 004 + flow 009;  "), 1);
        is("eight", read(x, "wish 1=1;wish 1=1;wish 1=1;wish 1=1;wish 1=1;wish 1=1;wish 1=1;wish 1=1;"), 8);
        is("they take the place", read(x, "wish 1=2;"), 1);
        is("many", x.many(2), 1);
        is("none", x.read(), 0);
        is("many", x.many(2), 0);
        is("all of the tape", read(x, "wish1" + "+1".repeat(106) + "=1;"), 1);
        fault("wish 1=1;wish 1=1;wish 1=1;wish 1=1;wish 1=1;wish 1=1;wish 1=1;wish 1=1; wish 1=1;", 73);
        fault(";".repeat(220), 0);
        fault("wish1" + "+1".repeat(107) + ">", 220);
        fault("wish ((((1=1)))) and ((((1=1))));wish (((((1=1)))));", 42);
        fault("wish", 4);
        fault("wish  ", 6);
        fault(" wishes 1 = 1;", 1);
        fault("Wish 1 = 1;", 0);
        fault(";", 0);
        fault("wish 1 = 1", 10);
        fault("wish 1 = 1 ", 11);
        fault("wish 1 = 1; x", 12);
        fault("wish 1000 = 1;", 5);
        fault("wish 1 = 0000;", 9);
        fault("wish node 5 = 1;", 10);
        fault("wish node = 1;", 10);
        fault("wish node", 9);
        fault("wish flow 10 = 1;", 10);
        fault("wish flow ;", 10);
        fault("wish 1;", 6);
        fault("wish 1 + ;", 9);
        fault("wish 1 = ;", 9);
        fault("wish 1 = 1 + ;", 13);
        fault("wish 1 = 1 and ;", 15);
        fault("wish (1 = 1) = 1;", 13);
        fault("fish 1 = 1;", 0);
        fault("wis 1 = 1;", 0);
        fault("wish mode 1 = 1;", 5);
        fault("wish 1 and 1 = 1;", 7);
        fault("wish 1 = 1 = 1;", 11);
        fault("wish 1 = 1 1;", 11);
        fault("wish 1 = not 1;", 9);
        fault("wish not;", 8);
        fault("wish (1 = 1;", 11);
        fault("wish 1 = 1);", 10);
        fault("wish (1) = 1;", 7);
        fault("wish (1 + 2) = 3;", 11);
        fault("wish ();", 6);
        fault("wish 1 = 1 or;", 13);
        fault("wish 1 = 1 or and 1 = 1;", 14);
        fault("wish 1 =\t1;", 8);
        fault("wish 1 - 1 = 0;", 7);
        fault("wish 1 = 1;;", 11);
        fault("wish 1 = 1 andor 1 = 1;", 11);
        fault("wish not not not 1 = 1 wish", 23);
        fault("wish pace 1 = 1;", 10);
        fault("wish 1 <= 1;", 8);
        fault("wish " + (char) 233 + ";", 5);
    }

    static void p18() {
        SizedParts x = withTwo();
        is("read", read(x, "wish node 2 = 6; wish node 2 < 8; wish node 1 = feed and node 0 = 0; wish pace > 99;"), 4);
        // 0, 4 (16 by 4), 5 (8 less 2, by 4)
        is("node 2 with MAKING 0", x.goes(0, 0), state(5, 0, 0));
        // 0, 6 (24 by 4), 7 (12 less 8, by 4)
        is("node 2 with MAKING 2", x.goes(8, 0), state(7, 0, 0));
        is("missed", x.missed(), 9);
        x.size(0, 1);
        is("node 2 with MAKING 0", x.goes(0, 0), state(4, 0, 0));
        is("node 2 with MAKING 1", x.goes(4, 0), state(4, 0, 0));
        is("missed", x.missed(), 9);
        is("read", read(x, "wish flow 0 = 6; wish flow 1 = 4; wish flow 5 = 0; wish flow 0 > 4 or ring = 2;"), 4);
        is("missed", x.missed(), 0b1011);
        // flows in the middle are 6 and 4; with MAKING 0 4 and 2
        is("holds", x.holds(4), 0b1111);
        is("holds", x.holds(0), 0b0100);
        is("holds", x.holds(6), 0b1100);
        x.breaks(0, 2);
        x.breaks(1, 1);
        is("read", read(x, "wish ring = 2; wish pace = 0; wish flow 0 = 400; wish flow 0 + node 2 < 400; wish feed = 10;"), 5);
        is("missed", x.missed(), 0b01000);
        SizedParts y = withCorners();
        int[] flows = {8, 9, 9, 9, 10, 11, 9, 11, 12};
        for (int c = 0; c < 9; c++) is("flow in " + c, y.flow(0, 0, c), flows[c]);
        is("read", read(y, "wish flow 0 > 8; wish flow 0 < 12; wish flow 0 < 13 and flow 0 > 7;"), 3);
        is("missed in one corner", y.missed(), 3);
        is("worst", y.worst(0), 0);
        is("worst", y.worst(1), 8);
        holds("1 = 1", true);
        holds("1 = 2", false);
        holds("1 < 2", true);
        holds("2 < 2", false);
        holds("3 > 2", true);
        holds("2 > 2", false);
        holds("1 + 2 + 3 = 6", true);
        holds("6 = 1 + 2 + 3", true);
        holds("not 1 = 2", true);
        holds("not not 1 = 2", false);
        holds("not not not 1 = 2", true);
        holds("1 = 1 or 1 = 1 and 1 = 2", true);
        holds("1 = 2 and 1 = 1 or 1 = 1", true);
        holds("1 = 2 and (1 = 1 or 1 = 1)", false);
        holds("(1 = 1 or 1 = 1) and 1 = 2", false);
        holds("not 1 = 1 or 1 = 1", true);
        holds("not (1 = 1 or 1 = 1)", false);
        holds("not 1 = 2 and 1 = 2", false);
        holds("not (1 = 2 and 1 = 2)", true);
        holds("1 = 2 or 1 = 2 or 1 = 1", true);
        holds("1 = 2 or 1 = 1 and 1 = 1 and 1 = 2", false);
        holds("1 = 2 or 1 = 1 and not 1 = 2 and 1 = 1 or 1 = 2", true);
        holds("(((1 = 2 or (1 = 1)) and 1 = 1) or 1 = 2) and not (1 = 2)", true);
        holds("999 + 999 > 999", true);
        holds("010 = 10", true);
        holds("feed = 10 and pace = 0 and ring = 1 and node 2 = 0 and flow 0 = 0", true);
    }

    static void p19() {
        SizedParts x = withTwo();
        x.size(0, 1);
        is("read", read(x, "wish flow 0 > 4; wish flow 0 < 8; wish flow 0 = 0; wish feed = 10; wish flow 0 < 5;"), 5);
        // 4 with MAKING 0, 6 with 1, 8 with 2
        is("worst", x.worst(0), 0);
        is("worst", x.worst(1), 6);
        is("worst", x.worst(2), 0);
        is("worst", x.worst(3), -3);
        is("worst", x.worst(4), 3);
        for (int bad : new int[] {-1, 5, MIN, MAX}) is("wish " + bad, x.worst(bad), -1);
        is("read", x.read(), 0);
        is("no wish", x.worst(0), -1);
    }

    static void p20() {
        SizedParts x = withTwo();
        x.size(0, 1);
        is("read", read(x, "wish flow 0 > 4; wish flow 0 < 8; wish feed = 10;"), 3);
        int[] due = {6, 6, 6, 7, 7, 7, 5, 5, 5};
        for (int c = 0; c < 9; c++) is("holds " + c, x.holds(c), due[c]);
        for (int bad : new int[] {-1, 9, MIN, MAX}) is("corner " + bad, x.holds(bad), -1);
    }

    // ---- sizing, breaks, changes

    static void p21() {
        SizedParts x = withLine();
        for (int i = 0; i < 6; i++) x.part(5, 12, 5, 0, 0);
        is("open", x.open(5, 1, 4), 1);
        is("open", x.open(0, 9, 9), 2);
        is("its size stays", x.partOf(0, 2), 5);
        is("again, otherwise", x.open(0, 1, 1), 2);
        is("sizing", x.sizing(0), 1);
        is("again, otherwise", x.open(0, 6, 9), 2);
        is("sizing", x.sizing(0), 6);
        for (int[] bad : new int[][] {{1, 5}, {0, 1}, {0, 3}, {9, 10}, {5, 4}, {1, -1}, {-1, 1}, {1, 9}, {MIN, MAX}, {MAX, MIN}, {MIN, 1}}) {
            is("from " + bad[0] + " to " + bad[1], x.open(2, bad[0], bad[1]), -1);
        }
        for (int bad : new int[] {-1, 6, MIN, MAX}) {
            is("part " + bad, x.open(bad, 1, 1), -1);
            is("part " + bad, x.open(bad, 1, 0), -1);
        }
        is("open", x.open(1, 1, 1), 3);
        is("open", x.open(2, 1, 2), 4);
        is("fifth", x.open(3, 1, 2), -2);
        is("the first named", x.open(3, 1, 5), -1);
        is("one that is open", x.open(2, 3, 3), 4);
        is("not any more", x.open(2, MIN, 0), 3);
        is("not open", x.open(3, 7, 0), 3);
        is("open", x.open(3, 4, 4), 4);
        is("many", x.many(3), 4);
    }

    static void p22() {
        SizedParts x = withTwo();
        is("nothing open", x.sizing(-1), 0);
        is("nothing open", x.sizing(0), -1);
        is("read", read(x, "wish node 2 = 5;"), 1);
        is("nothing open, missed", x.sizing(-1), -3);
        is("nothing open", x.sizing(0), -1);
        is("read", x.read(), 0);
        is("open", x.open(1, 2, 5), 1);
        is("open", x.open(0, 3, 4), 2);
        is("without wishes", x.sizing(-1), 5);
        is("by numbers", x.sizing(0), 3);
        is("by numbers", x.sizing(1), 2);
        is("what", x.sizing(2), -1);
        is("what", x.sizing(-2), -1);
        is("what", x.sizing(MIN), -1);
        is("what", x.sizing(MAX), -1);
        // flow 5 is 0, as there is none such
        is("read", read(x, "wish flow 5 = 1;"), 1);
        is("no row", x.sizing(-1), -3);
        is("no row", x.sizing(1), -3);
        is("the first named", x.sizing(2), -1);
        is("sizes stay", x.partOf(0, 2), 2);
        // two sources, whose flows are their sizes
        SizedParts z = withCorners();
        is("read", read(z, "wish flow 0 > 8;"), 1);
        is("missed in the first corner", z.sizing(-1), -3);
        is("read", read(z, "wish flow 0 < 12;"), 1);
        is("missed in the last corner", z.sizing(-1), -3);
        is("read", read(z, "wish flow 0 < 13;"), 1);
        is("met", z.sizing(-1), 0);
        SizedParts y = withLine();
        y.part(5, 12, 9, 0, 0);
        y.part(5, 12, 9, 0, 0);
        y.open(0, 1, 4);
        y.open(1, 1, 4);
        is("read", read(y, "wish flow 0 + flow 1 = 5 or flow 0 + flow 1 = 6;"), 1);
        is("least sum", y.sizing(-1), 5);
        is("first as a row", y.sizing(0), 1);
        is("first as a row", y.sizing(1), 4);
        is("read", read(y, "wish flow 0 > 2; wish flow 1 > 1 or flow 0 = 4;"), 2);
        is("least sum", y.sizing(-1), 5);
        is("first as a row", y.sizing(0), 3);
        is("read", read(y, "wish flow 0 = 2 and flow 1 = 4 or flow 0 = 4 and flow 1 = 1;"), 1);
        is("the sum ahead of the row", y.sizing(0), 4);
        is("the sum", y.sizing(-1), 5);
    }

    static void p23() {
        SizedParts x = withTwo();
        is("nothing open", x.prove(), 0);
        x.open(0, 1, 4);
        x.open(1, 2, 3);
        is("read", read(x, "wish node 2 > 4;"), 1);
        is("prove", x.prove(), 2);
        is("many", x.many(5), 2);
        is("part", x.row(0, 0), 0);
        is("part", x.row(1, 0), 1);
        is("size", x.row(0, 1), x.sizing(0));
        is("size", x.row(1, 1), x.sizing(1));
        is("judge", x.judge(), 0);
        is("read", read(x, "wish 1 = 2;"), 1);
        is("none", x.prove(), -3);
        is("rows stay", x.many(5), 2);
        is("read", x.read(), 0);
        x.open(0, 0, 0);
        is("prove", x.prove(), 1);
        is("part", x.row(0, 0), 1);
        is("size", x.row(0, 1), 2);
        is("no second", x.row(1, 0), -9);
    }

    static void p24() {
        SizedParts x = withTwo();
        is("none", x.row(0, 0), -9);
        x.open(1, 2, 3);
        is("prove", x.prove(), 1);
        is("part", x.row(0, 0), 1);
        is("size", x.row(0, 1), 2);
        for (int bad : new int[] {-1, 1, 4, MIN, MAX}) is("row " + bad, x.row(bad, 0), -9);
        for (int bad : new int[] {-1, 2, MIN, MAX}) is("what " + bad, x.row(0, bad), -9);
    }

    static void p25() {
        SizedParts x = withTwo();
        is("none", x.alterRow(0, 0, 1), -9);
        x.open(1, 2, 3);
        is("prove", x.prove(), 1);
        is("part", x.alterRow(0, 0, MIN), 1);
        is("part", x.alterRow(0, 0, 1), MIN);
        is("size", x.alterRow(0, 1, MAX), 2);
        is("size", x.row(0, 1), MAX);
        is("part", x.row(0, 0), 1);
        for (int bad : new int[] {-1, 1, 4, MIN, MAX}) is("row " + bad, x.alterRow(bad, 0, 3), -9);
        for (int bad : new int[] {-1, 2, MIN, MAX}) is("what " + bad, x.alterRow(0, bad, 3), -9);
        is("size", x.row(0, 1), MAX);
        is("the part's size stays", x.partOf(1, 2), 1);
    }

    static void p26() {
        SizedParts x = withTwo();
        is("nothing", x.judge(), 0);
        x.open(0, 2, 4);
        is("too few", x.judge(), 11);
        x.open(1, 1, 3);
        is("prove", x.prove(), 2);
        is("right", x.judge(), 0);
        for (int bad : new int[] {1, 5, 0, -1, MIN, MAX}) {
            int was = x.alterRow(0, 1, bad);
            is("size " + bad, x.judge(), 1);
            x.alterRow(0, 1, was);
        }
        for (int bad : new int[] {0, 2, -1, MIN, MAX}) {
            x.alterRow(1, 0, bad);
            is("part " + bad, x.judge(), 2);
        }
        x.alterRow(0, 0, 1);
        is("the first one", x.judge(), 1);
        x.alterRow(0, 0, 0);
        x.alterRow(1, 0, 1);
        is("right", x.judge(), 0);
        // 2 and 1 in the rows, with which node 2 comes to 5, 6 or 7, whatever the sizes are now
        x.size(0, 9);
        String mid = "wish node 2 > 4 and node 2 < 8;";
        is("read", read(x, "wish feed = 10;" + mid + mid), 3);
        is("right", x.judge(), 0);
        is("missed now", x.missed(), 6);
        x.alterRow(1, 1, 3);
        is("missed", x.judge(), 21);
        is("read", read(x, mid + "wish feed = 10;"), 2);
        is("missed", x.judge(), 20);
        x.open(0, 1, 0);
        is("not open any more", x.judge(), 1);
        x.open(0, 2, 2);
        x.open(1, 1, 0);
        is("one too many", x.judge(), 2);
        x.part(5, 12, 1, 0, 0);
        x.open(1, 1, 3);
        x.open(2, 1, 3);
        is("too few", x.judge(), 11);
        is("sizes stay", x.partOf(1, 2), 1);
    }

    static void p27() {
        SizedParts x = withLine();
        x.part(5, 12, 4, 0, 0);
        is("up to 9", x.far(0, true), 5);
        is("down to 1", x.far(0, false), 3);
        x.size(0, 1);
        is("all the way up", x.far(0, true), 8);
        x.size(0, 9);
        is("all the way down", x.far(0, false), 8);
        x.size(0, 4);
        is("read", read(x, "wish flow 0 < 7 and not flow 0 = 2;"), 1);
        is("up", x.far(0, true), 2);
        is("down, each one on the way", x.far(0, false), 1);
        is("its size stays", x.partOf(0, 2), 4);
        x.size(0, 6);
        is("up", x.far(0, true), 0);
        x.size(0, 7);
        is("missed now", x.far(0, true), -5);
        is("missed now", x.far(0, false), -5);
        x.size(0, 1);
        is("down", x.far(0, false), 0);
        for (int bad : new int[] {-1, 1, MIN, MAX}) is("part " + bad, x.far(bad, true), -1);
        is("read", read(x, "wish 1 = 2;"), 1);
        is("the first named", x.far(1, false), -1);
    }

    static void p28() {
        SizedParts x = withLine();
        x.part(5, 12, 4, 0, 0);
        x.part(5, 20, 4, 0, 0);
        is("read", read(x, "wish flow 0 = 4; wish flow 0 < 5; wish flow 0 < 4; wish flow 1 = 4; wish flow 0 < 9;"), 5);
        is("open", x.falls(0, 1), 1);
        x.feedAt(1);
        x.breaks(1, 1);
        // shut: 40 times 1 of the feed less node 2, which goes 0, 10, 0
        is("shut", x.falls(0, 2), 0b10011);
        is("as it is", x.missed(), 0b01100);
        x.breaks(0, 2);
        is("whatever it is now", x.falls(0, 2), 0b10011);
        is("whatever it is now", x.falls(0, 1), 1);
        is("it stays", x.partOf(0, 3), 2);
        x.breaks(0, 0);
        is("of a broken one", x.falls(1, 1), 8);
        for (int bad : new int[] {0, 3, -1, MIN, MAX}) is("how " + bad, x.falls(0, bad), -1);
        for (int bad : new int[] {2, -1, MIN, MAX}) is("part " + bad, x.falls(bad, 1), -1);
    }

    static void p29() {
        SizedParts x = withTwo();
        for (int bad : new int[] {3, -1, MIN, MAX}) is("what " + bad, x.change(0, bad), -1);
        for (int bad : new int[] {2, -1, MIN, MAX}) is("part " + bad, x.change(bad, 0), -1);
        for (int i = 0; i < 6; i++) is("change", x.change(i % 2, i % 3), i);
        is("seventh", x.change(0, 0), -2);
        is("the first named", x.change(2, 0), -1);
        is("many", x.many(4), 6);
        is("nothing is changed", x.partOf(0, 1), 12);
    }

    static void p30() {
        SizedParts x = withLine();
        x.part(5, 12, 4, 0, 0);
        x.part(5, 20, 4, 0, 0);
        is("no wish", x.help(), 0);
        is("read", read(x, "wish flow 0 = 0;"), 1);
        is("no change", x.help(), -3);
        x.change(1, 0);
        is("no help", x.help(), -3);
        x.change(0, 2); // flow 0 is 6
        x.change(0, 0); // flow 0 is 0
        is("help", x.help(), 4);
        is("read", read(x, "wish flow 0 = 4;"), 1);
        is("nothing needed", x.help(), 0);
        is("read", read(x, "wish flow 0 = 6 and flow 1 = 0;"), 1);
        is("two", x.help(), 3);
        is("read", read(x, "wish not flow 0 = 4;"), 1);
        is("the least as bits", x.help(), 2);
        is("read", read(x, "wish node 2 = 0 and feed = 10;"), 1);
        is("as it is", x.help(), 0);
        is("read", read(x, "wish node 2 = 20;"), 1);
        is("the fewest", x.help(), 1);
        x.change(1, 1); // the second source comes to 2 from 0
        is("the fewest", x.help(), 1);
        is("read", read(x, "wish node 2 = 20 and flow 1 = 4;"), 1);
        is("nodes change places", x.help(), 8);
        is("read", read(x, "wish node 2 = 20 and flow 1 = 4 and flow 0 = 4;"), 1);
        is("nodes change places", x.help(), 8);
        x.change(0, 2);
        is("read", read(x, "wish flow 0 = 6 and flow 1 = 4 and node 2 = 20 and pace = 10;"), 1);
        is("not twice the same size", x.help(), 10);
        is("the parts stay", x.partOf(1, 1), 20);
        is("the parts stay", x.partOf(0, 2), 4);
        is("the parts stay", x.many(10), 0);
        // one behind the other: 10 less 4 is 6, and 10 less that 4 again
        SizedParts y = withLine();
        y.part(5, 12, 4, 0, 0);
        y.part(4, 23, 7, 0, 0);
        y.change(0, 2);
        y.change(1, 2);
        y.change(0, 2);
        is("read", read(y, "wish flow 0 = 6;"), 1);
        is("one", y.help(), 1);
        is("read", read(y, "wish flow 0 = 4 and pace = 0;"), 1);
        is("4 by 4 and 7 doesn't move", y.help(), 0);
        // a shut one is opened
        y.breaks(0, 2);
        y.change(0, 0);
        is("read", read(y, "wish flow 0 = 0 and pace = 0;"), 1);
        is("opened", y.help(), 8);
    }

    static void p31() {
        SizedParts x = new SizedParts();
        is("measured", x.measured(2, 20), -1);
        is("measured", x.measured(2, 0), 20);
        is("measured", x.measured(3, 4), -1);
        is("measured", x.measured(4, 5), -1);
        is("not", x.measured(3, -1), 4);
        is("measured", x.measured(2, -1), 0);
        is("measured", x.measured(3, 1), -1);
        for (int bad : new int[] {0, 1, 5, -1, MIN, MAX}) is("node " + bad, x.measured(bad, 1), -9);
        for (int bad : new int[] {21, -2, MIN, MAX}) is("level " + bad, x.measured(4, bad), -9);
        is("measured", x.measured(4, 5), 5);
    }

    static void p32() {
        SizedParts x = withTwo();
        is("nothing measured", x.which(), 0);
        x.measured(2, 6);
        is("as they say", x.which(), 0);
        x.measured(2, 5);
        is("the second", x.which(), 2);
        x.measured(2, 7);
        is("the first", x.which(), 1);
        is("sizes stay", x.partOf(0, 2), 2);
        x.measured(3, 20);
        is("nothing reaches node 3", x.which(), -3);
        SizedParts y = withLine();
        y.part(5, 13, 1, 0, 0);
        y.part(5, 12, 1, 0, 0);
        y.part(5, 14, 1, 0, 0);
        y.part(4, 20, 1, 0, 0);
        // below its weight a source moves nothing
        y.measured(2, 0);
        y.measured(3, 0);
        y.measured(4, 0);
        is("nothing moves", y.which(), 0);
        y.measured(3, 20);
        is("the source of 3", y.which(), 1);
        y.measured(4, 20);
        is("those of 3 and 4", y.which(), 5);
        y.measured(2, 20);
        is("three", y.which(), -3);
        y.measured(3, -1);
        is("those of 2 and 4", y.which(), 6);
        y.measured(4, -1);
        is("that of 2", y.which(), 2);
        y.measured(2, 3);
        is("none", y.which(), -3);
        // a source against a drain ends at its size less 3 from below, and 3 more from above
        SizedParts w = withLine();
        w.part(5, 12, 5, 0, 0);
        w.part(5, 13, 5, 0, 0);
        w.part(1, 20, 1, 5, 0);
        w.part(1, 30, 1, 5, 0);
        is("2 and 2", w.goes(4, 0), state(2, 2, 0));
        w.measured(2, 6);
        is("9", w.which(), 1);
        w.measured(3, 6);
        is("9 and 9", w.which(), 3);
        w.measured(3, 0);
        w.measured(2, -1);
        is("0 is measured, too", w.which(), 2);
        w.start(state(20, 20, 0));
        w.measured(2, 4);
        w.measured(3, -1);
        is("1", w.which(), 1);
        w.measured(3, 4);
        is("1 and 1", w.which(), 3);
        is("sizes stay", w.goes(4, 0), state(8, 8, 0));
        SizedParts v = withLine();
        v.part(1, 12, 1, 9, 0);
        v.measured(2, 7);
        is("no heat", v.which(), 0);
        is("heat", v.goes(5, 0), state(8, 0, 0));
        // in the corner 4, whatever the others say
        SizedParts z = withLine();
        z.part(1, 12, 1, 55, 0);
        z.measured(2, 7);
        is("0, 2, 4, 5, 6, 7", z.which(), 0);
        is("another corner", z.goes(8, 0), state(10, 0, 0));
    }

    // ---- the host

    static void p33() {
        SizedParts x = new SizedParts();
        for (int sort = 0; sort <= 3; sort++) {
            is("sheet", x.sheet(sort, sort, 40), 1);
            is("all 0", x.item(sort, sort, 39), 0);
            is("outside", x.item(sort, sort, 40), -12);
            is("put", x.put(sort, 0, 9), 1);
            is("sheet", x.sheet(sort, sort, 1), 1);
            is("all 0 again", x.item(sort, sort, 0), 0);
            is("sheet", x.sheet(sort, sort, 0), 1);
            is("outside", x.item(sort, sort, 0), -12);
        }
        is("n above 40", x.sheet(0, 0, 41), -1);
        is("n", x.sheet(0, 0, MAX), -1);
        is("n below 0", x.sheet(0, 0, -1), -14);
        is("n below 0", x.sheet(0, 3, MIN), -14);
        is("stays", x.item(0, 0, 0), -12);
        for (int bad : new int[] {4, -1, MIN, MAX}) is("sheet " + bad, x.sheet(bad, 0, 1), -1);
        for (int bad : new int[] {4, -2, MIN, MAX}) is("sort " + bad, x.sheet(0, bad, 1), -1);
        is("the first named", x.sheet(4, 0, -1), -1);
        is("the first named", x.sheet(0, 4, -1), -1);
        is("missing", x.sheet(0, -1, 41), 1);
        is("missing", x.item(0, 0, 0), -11);
        is("missing", x.sheet(0, -1, MIN), 1);
    }

    static void p34() {
        SizedParts x = new SizedParts();
        is("missing", x.put(0, 0, 1), -11);
        is("missing", x.put(0, 40, 1), -11);
        for (int bad : new int[] {4, -1, MIN, MAX}) is("sheet " + bad, x.put(bad, 0, 1), -1);
        for (int sort = 0; sort <= 3; sort++) {
            is("sheet", x.sheet(sort, sort, 3), 1);
            for (int bad : new int[] {3, -1, MIN, MAX}) is("item " + bad, x.put(sort, bad, 1), -12);
            is("put", x.put(sort, 1, -65281), 1);
            is("put", x.put(sort, 2, 128), 1);
            is("others stay", x.item(sort, sort, 0), 0);
        }
        is("bytes", x.item(0, 0, 1), -1);
        is("bytes", x.item(0, 0, 2), -128);
        is("shorts", x.item(1, 1, 1), 255);
        is("shorts", x.item(1, 1, 2), 128);
        is("ints", x.item(2, 2, 1), -65281);
        is("longs", x.item(3, 3, 1), -65281);
        x.put(1, 0, 40000);
        is("shorts", x.item(1, 1, 0), -25536);
        x.put(2, 0, MIN);
        is("ints", x.item(2, 2, 0), MIN);
        x.put(3, 0, MAX);
        is("longs", x.item(3, 3, 0), MAX);
    }

    static void p35() {
        SizedParts x = new SizedParts();
        is("missing", x.item(0, 0, -1), -11);
        for (int sort = 0; sort <= 3; sort++) {
            x.sheet(0, sort, 2);
            x.put(0, 1, -12);
            for (int as = 0; as <= 3; as++) {
                is("as " + as, x.item(0, as, 1), as == sort ? -12 : -13);
                is("the first named", x.item(0, as, 2), as == sort ? -12 : -13);
            }
            x.put(0, 1, 7);
            is("item", x.item(0, sort, 1), 7);
            for (int bad : new int[] {-1, 2, MIN, MAX}) is("item " + bad, x.item(0, sort, bad), -12);
        }
        for (int bad : new int[] {4, -1, MIN, MAX}) is("sheet " + bad, x.item(bad, 0, 0), -1);
        for (int bad : new int[] {4, -1, MIN, MAX}) is("sort " + bad, x.item(0, bad, 0), -1);
        is("the first named", x.item(1, 4, 0), -1);
    }

    static void p36() {
        SizedParts x = withLine();
        for (int i = 0; i < 4; i++) x.part(5, 12, 5, 0, 0);
        is("missing", x.sizes(0, 1, 0, 1), -11);
        is("missing", x.sizes(0, 1, 0, 0), -11);
        is("bytes", x.sizes(0, 0, 0, 0), -13);
        x.sheet(2, 2, 9);
        is("ints", x.sizes(0, 2, 0, 1), -13);
        x.sheet(3, 1, 9);
        is("the last sheet", x.sizes(0, 3, 0, 9), 0);
        x.sheet(1, 1, 8);
        int[] v = {1, 9, 0, 10, 2, -3, 3, 4};
        for (int i = 0; i < 8; i++) x.put(1, i, v[i]);
        is("sizes", x.sizes(0, 1, 0, 4), 2);
        is("1", x.partOf(0, 2), 1);
        is("9", x.partOf(1, 2), 9);
        is("left out", x.partOf(2, 2), 5);
        is("left out", x.partOf(3, 2), 5);
        is("of no part", x.sizes(2, 1, 4, 4), 1);
        is("2", x.partOf(2, 2), 2);
        is("-3", x.partOf(3, 2), 5);
        is("outside", x.sizes(1, 1, 6, 3), -12);
        is("what stood ahead came", x.partOf(1, 2), 3);
        is("what stood ahead came", x.partOf(2, 2), 4);
        is("outside, though of no part", x.sizes(3, 1, 7, 2), -12);
        is("what stood ahead came", x.partOf(3, 2), 4);
        is("outside", x.sizes(0, 1, -1, 2), -12);
        is("nothing came", x.partOf(0, 2), 1);
        is("outside", x.sizes(0, 1, MAX, 10), -12);
        is("outside", x.sizes(0, 1, MIN, 10), -12);
        is("none asked", x.sizes(0, 1, MIN, 0), 0);
        is("all ten", x.sizes(0, 1, 0, 10), -12);
        for (int bad : new int[] {-1, 11, MIN, MAX}) is("n " + bad, x.sizes(0, 1, 0, bad), -1);
        for (int bad : new int[] {-1, 4, MIN, MAX}) {
            is("part " + bad, x.sizes(bad, 1, 0, 0), -1);
            is("sheet " + bad, x.sizes(0, bad, 0, 0), -1);
        }
        is("the first named", x.sizes(9, 3, 0, 1), -1);
    }

    static void p37() {
        SizedParts x = withTwo();
        is("part", x.shelf(0, 0, 1), 1);
        is("taken", x.taken(0, 0), 1);
        is("row", x.shelf(0, 1, 0), 1);
        is("taken", x.taken(0, 10), 21);
        is("part in place of a row", x.shelf(0, 0, 0), 1);
        is("taken", x.taken(0, 1), 0);
        is("a missing sheet", x.shelf(0, 1, 3), 1);
        is("taken", x.taken(0, 0), -11);
        is("part", x.shelf(3, 0, 0), 1);
        is("nothing", x.shelf(3, 2, 99), 1);
        is("taken", x.taken(3, 0), -11);
        is("row", x.shelf(3, 1, 0), 1);
        is("nothing", x.shelf(3, 2, MIN), 1);
        is("taken", x.taken(3, 0), -11);
        x.shelf(1, 0, 1);
        for (int bad : new int[] {4, -1, MIN, MAX}) {
            is("shelf " + bad, x.shelf(bad, 0, 0), -1);
            is("sheet " + bad, x.shelf(1, 1, bad), -1);
            is("part " + bad, x.shelf(1, 0, bad), -1);
        }
        for (int bad : new int[] {3, -1, MIN, MAX}) is("what " + bad, x.shelf(1, bad, 0), -1);
        is("stays", x.taken(1, 0), 1);
    }

    static void p38() {
        SizedParts x = withLine();
        x.part(1, 12, 1, 5, 0);
        x.part(2, 12, 1, 5, 0);
        x.part(3, 12, 1, 5, 10);
        x.part(4, 12, 1, 5, 0);
        x.part(5, 12, 1, 5, 0);
        String[] under = {"01", "012", "0123", "04", "05"};
        for (int p = 0; p < 5; p++) {
            x.shelf(0, 0, p);
            for (int as = 0; as <= 6; as++) is(p + " as " + as, x.taken(0, as), under[p].indexOf('0' + as) >= 0 ? p : -13);
            for (int as = 10; as <= 13; as++) is("no row", x.taken(0, as), -13);
            x.breaks(p, 1 + p % 2);
            for (int as = 0; as <= 6; as++) is("broken " + p + " as " + as, x.taken(0, as), as == 0 || as == 6 ? p : -13);
            x.breaks(p, 0);
        }
        is("dropped", x.drop(), 4);
        is("nothing any more", x.taken(0, 5), -11);
        is("nothing any more", x.taken(0, 10), -11);
        x.part(4, 12, 1, 5, 0);
        is("as it is now", x.taken(0, 4), 4);
        for (int sort = 0; sort <= 3; sort++) {
            x.sheet(1, sort, 5 + sort);
            x.shelf(sort, 1, 1);
        }
        x.sheet(1, -1, 0);
        for (int sort = 0; sort <= 3; sort++) {
            for (int as = 10; as <= 13; as++) is("row as " + as, x.taken(sort, as), as == 10 + sort ? 5 + sort : -13);
            for (int as = 0; as <= 6; as++) is("a row is no thing", x.taken(sort, as), -13);
        }
        for (int bad : new int[] {-1, 7, 8, 9, 14, MIN, MAX}) is("as " + bad, x.taken(0, bad), -1);
        for (int bad : new int[] {-1, 4, MIN, MAX}) is("shelf " + bad, x.taken(bad, 0), -1);
    }

    static void acts(SizedParts x, int act, int with, int due, int... bodies) {
        is("act " + act, x.act(0, act, with), due);
        is("bodies of act " + act, x.many(7), bodies.length);
        for (int i = 0; i < bodies.length; i++) is("body " + i + " of act " + act, x.trace(i), bodies[i]);
    }

    static void p39() {
        SizedParts x = withLine();
        x.part(1, 12, 7, 5, 0);
        x.part(2, 12, 7, 5, 0);
        x.part(3, 12, 7, 5, 10);
        x.part(4, 12, 7, 5, 0);
        x.part(5, 12, 7, 5, 0);
        x.shelf(0, 0, 0); // n 0, a 7
        acts(x, 0, 5, 9, 20, 10);
        acts(x, 1, 5, 18, 11, 20, 10);
        acts(x, 2, 20, 2, 12);
        acts(x, 2, -20, -2, 12);
        acts(x, 3, 5, 18, 13, 11, 20, 10);
        acts(x, 0, MAX, MIN + 3, 20, 10);
        x.shelf(0, 0, 1); // n 1, a 7
        acts(x, 0, 5, 9, 20, 10);
        acts(x, 1, 5, 24, 30, 11, 20, 10, 20, 10);
        acts(x, 2, 20, 3, 12);
        acts(x, 3, 5, (24 ^ 1) * 5, 31, 13, 30, 11, 20, 10, 20, 10);
        x.shelf(0, 0, 2); // n 2, a 7
        acts(x, 0, 5, 9 ^ 7, 40, 20, 10);
        acts(x, 1, 5, (9 ^ 7) * 2 + (6 ^ 7), 30, 11, 40, 20, 10, 40, 20, 10);
        acts(x, 2, 20, 3, 41, 12);
        acts(x, 2, 21, 4, 41, 12);
        acts(x, 3, 4, (31 ^ 2) * 5, 31, 13, 30, 11, 40, 20, 10, 40, 20, 10);
        acts(x, 2, MIN, MAX / 5, 41, 12);
        acts(x, 3, 5, (29 ^ 2) * 5, 31, 13, 30, 11, 40, 20, 10, 40, 20, 10);
        x.shelf(0, 0, 3); // n 3, a 7
        acts(x, 0, 5, 12, 10);
        acts(x, 1, 5, -24, 50, 11, 10);
        acts(x, 2, 21, 5, 12);
        acts(x, 3, 5, -24 ^ 3, 13, 50, 11, 10);
        x.shelf(0, 0, 4); // n 4, a 7
        acts(x, 3, 5, (24 ^ 4) + 5 / 3, 60, 13, 11, 10, 12);
        acts(x, 1, 5, 24, 11, 10);
        x.size(4, 9);
        acts(x, 3, 5, (28 ^ 4) + 5 / 5, 60, 13, 11, 10, 12);
        x.size(4, 4);
        acts(x, 2, 5, -15, 12);
        acts(x, 3, 5, -15, 60, 13, 11, 10, 12);
        acts(x, 0, 5, 9, 10);
        x.size(4, 3);
        acts(x, 2, MIN, MIN, 12);
        x.breaks(4, 2);
        acts(x, 0, 5, 56, 70, 10);
        acts(x, 1, 5, 112, 11, 70, 10);
        acts(x, 3, 5, 112 ^ 4, 13, 11, 70, 10);
        acts(x, 2, 5, -5, 12);
        x.shelf(3, 0, 4);
        is("the last shelf", x.act(3, 2, 5), -5);
        x.shelf(3, 2, 0);
        x.shelf(1, 1, 0);
        is("a row", x.act(1, 0, 5), 0);
        is("no trace then", x.many(7), 0);
        is("no trace then", x.trace(0), -3);
        for (int bad : new int[] {4, -1, MIN, MAX}) {
            acts(x, 2, 5, -5, 12);
            is("shelf " + bad, x.act(bad, 0, 5), 0);
            is("no trace then", x.many(7), 0);
            acts(x, 2, 5, -5, 12);
            is("act " + bad, x.act(0, bad, 5), 0);
            is("no trace then", x.many(7), 0);
        }
        acts(x, 2, 5, -5, 12);
        is("nothing", x.act(3, 0, 5), 0);
        is("no trace then", x.many(7), 0);
        x.drop();
        acts(x, 2, 5, 0);
    }

    static void p40() {
        SizedParts x = withLine();
        is("none", x.trace(0), -3);
        x.part(2, 12, 7, 5, 0);
        x.shelf(0, 0, 0);
        x.act(0, 3, 1);
        int[] due = {31, 13, 30, 11, 20, 10, 20, 10};
        for (int i = 0; i < due.length; i++) is("body " + i, x.trace(i), due[i]);
        for (int bad : new int[] {8, 29, 30, -1, MIN, MAX}) is("body " + bad, x.trace(bad), -3);
        is("asking changes nothing", x.many(7), 8);
        x.act(0, 0, 1);
        is("the latest", x.trace(0), 20);
        is("the latest", x.trace(2), -3);
    }

    static void p41() {
        SizedParts x = withTwo();
        x.part(5, 12, 3, 0, 0);
        x.breaks(2, 1);
        x.breaks(1, 2);
        x.open(0, 1, 2);
        x.change(0, 0);
        x.change(0, 1);
        x.feedAt(3);
        x.start(77);
        is("read", read(x, "wish 1 = 1; wish 2 = 2; wish 3 = 3; wish 4 = 4;"), 4);
        x.prove();
        x.feed(0, 5);
        x.shelf(0, 0, 0);
        x.act(0, 1, 2);
        int[] due = {3, 1, 4, 1, 2, 1, 5, 3, 3, 77, 2};
        for (int what = 0; what <= 10; what++) is("many " + what, x.many(what), due[what]);
        for (int bad : new int[] {-1, 11, MIN, MAX}) is("what " + bad, x.many(bad), -1);
    }

    static void p42() {
        SizedParts x = withTwo();
        is("keep", x.keep(), 1);
        is("read", read(x, "wish 1 = 2;"), 1);
        bytes(x, 3, line(1, 2));
        is("table", x.table(3), 1);
        x.part(1, 34, 3, 105, 0);
        x.size(0, 7);
        x.breaks(1, 1);
        x.feedAt(4);
        x.start(5);
        x.open(1, 2, 3);
        x.change(0, 1);
        x.measured(3, 9);
        x.feed(0x20202020, 4);
        x.shelf(2, 0, 1);
        x.act(2, 0, 1);
        is("again", x.again(), 1);
        int[] due = {2, 1, 0, 0, 0, 0, 4, 2, 10, 0, 0};
        for (int what = 0; what <= 10; what++) is("many " + what, x.many(what), due[what]);
        is("size", x.partOf(0, 2), 2);
        is("whole", x.partOf(1, 3), 0);
        is("measured", x.measured(3, -1), -1);
        is("a sheet stays", x.item(3, 0, 4), 2);
        is("a shelf stays", x.taken(2, 1), 1);
        is("the trace stays", x.trace(0), 70);
        is("missed", x.missed(), 0);
    }

    static void p43() {
        SizedParts x = withTwo();
        is("nothing is kept", x.again(), -3);
        is("nothing is changed", x.many(0), 2);
        is("read", read(x, "wish feed = 10; wish node 2 > 4 and node 2 < 8;"), 2);
        x.open(0, 2, 3);
        x.open(1, 1, 3);
        x.change(0, 2);
        x.measured(2, 6);
        x.start(state(1, 2, 3));
        x.breaks(1, 2);
        x.keep();
        x.breaks(1, 0);
        is("prove", x.prove(), 2);
        for (int i = 0; i < 3; i++) {
            x.drop();
            x.drop();
            x.feedAt(1);
            x.start(0);
            x.measured(2, 1);
            is("read", x.read(), 0);
            is("again", x.again(), 1);
            int[] due = {2, 1, 2, 2, 1, 2, 0, 0, 10, state(1, 2, 3), 1};
            for (int what = 0; what <= 10; what++) is("many " + what, x.many(what), due[what]);
            is("ends", x.partOf(1, 1), 20);
            is("law", x.partOf(1, 5), 2);
            is("broken", x.partOf(1, 3), 2);
            is("measured", x.measured(2, 6), 6);
            is("worst", x.worst(0), -3);
            is("worst", x.worst(1), 0);
            // what is done now leaves what was kept
            is("size", x.size(0, 9), 2);
            is("change", x.change(1, 1), 1);
        }
        x.feedAt(2);
        x.keep();
        x.feedAt(3);
        x.again();
        is("the latest", x.many(8), 2);
        is("the latest", x.partOf(0, 2), 9);
        // all of a part, of a table and of a change
        SizedParts y = withLine();
        bytes(y, 0, line(1, 2));
        is("table", y.table(0), 1);
        y.part(1, 43, 9, 159, 0);
        y.part(2, 10, 1, 32, 4);
        y.part(3, 4, 2, 137, 13);
        y.part(4, 23, 3, 0, 0);
        y.part(5, 13, 4, 0, 0);
        y.open(4, 3, 5);
        y.change(4, 2);
        y.change(1, 0);
        y.keep();
        for (int i = 0; i < 5; i++) y.drop();
        for (int i = 0; i < 5; i++) y.part(2, 41, 8, 26, 1);
        for (int i = 0; i < 5; i++) y.change(0, 1);
        y.part(3, 41, 8, 26, 21);
        y.open(4, 1, 1);
        y.again();
        int[][] told = {
            {1, 43, 9, 0, 1, 5, 9, -9, -9},
            {2, 10, 1, 0, 0, 3, 2, 4, -9},
            {3, 4, 2, 0, 1, 3, 7, 3, 1},
            {4, 23, 3, 0, -9, -9, -9, -9, -9},
            {5, 13, 4, 0, -9, -9, -9, -9, -9}};
        for (int i = 0; i < 5; i++) {
            for (int what = 0; what <= 8; what++) is("partOf " + i + " " + what, y.partOf(i, what), told[i][what]);
        }
        is("open", y.sizing(0), 3);
        is("read", read(y, "wish flow 4 = 6;"), 1);
        is("changes", y.help(), 1);
        is("read", read(y, "wish flow 1 = 0 and flow 4 = 6;"), 1);
        is("flow by a table", y.flow(0, state(0, 0, 9), 4), 36);
    }
}
