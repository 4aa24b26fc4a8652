/** Promises 42 and 43: kept. */
final class EdgesOfKept extends Edges {
    @Promise(n = 42, says = "All but THE TAPE, ROWS, SHEETS, SHELVES, THE TRACE is kept: 1.")
    void keepOfANewOne() {
        SizedParts x = new SizedParts();
        is("keep", x.keep(), 1);
        type(x, "wish 1=2;");
        x.read();
        x.part(SOURCE, 12, 4, 0, 0);
        x.feedAt(20);
        x.start(9260);
        x.measured(4, 20);
        x.open(0, 1, 1);
        x.change(0, 0);
        is("again", x.again(), 1);
        int[] due = {0, 0, 0, 0, 0, 0, 0, 0, 10, 0, 0};
        for (int what = 0; what <= 10; what++) is("many " + what, x.many(what), due[what]);
        is("measured", x.measured(4, -1), -1);
    }

    @Promise(n = 42, says = "All but THE TAPE, ROWS, SHEETS, SHELVES, THE TRACE is kept")
    void keepLeavesTheHostOut() {
        SizedParts x = rich();
        x.keep();
        x.read(); // THE TAPE is used up
        type(x, "   ");
        x.alterRow(0, 1, 3);
        x.put(0, 0, 29);
        x.sheet(2, 0, 2);
        x.sheet(3, 2, 40);
        x.shelf(3, 0, 1);
        x.shelf(0, 2, 0);
        x.act(3, 0, 1);
        x.again();
        is("tape", x.many(6), 3);
        is("row", x.row(0, 1), 3);
        is("item", x.item(0, 0, 0), 29);
        is("sheet 2", x.item(2, 0, 1), 0);
        is("sheet 3", x.item(3, 2, 39), 0);
        is("shelf 3", x.taken(3, 1), 1);
        is("shelf 0", x.taken(0, 0), MISSING);
        is("trace", x.many(7), 2);
        is("trace", x.trace(0), 20);
    }

    @Promise(n = 42, says = "All but THE TAPE, ROWS, SHEETS, SHELVES, THE TRACE is kept")
    void keepOfAsMuchAsThereCanBe() {
        SizedParts x = full(), y = full();
        x.keep();
        y.keep();
        x.read();
        for (int i = 0; i < 10; i++) x.drop();
        for (int i = 0; i < 10; i++) x.part(i == 3 ? PAIR : VALVE, 42, 9 - i % 9, 54, i == 3 ? 24 : 4);
        for (int i = 6; i < 10; i++) x.open(i, 9, 9);
        for (int i = 0; i < 6; i++) x.change(9 - i, (i + 1) % 3);
        for (int i = 0; i < 10; i++) x.breaks(i, 2);
        for (int node = 2; node <= 4; node++) x.measured(node, -1);
        x.feedAt(1);
        x.start(1);
        x.again();
        is("all is as it was", Told.by(x).equals(Told.by(y)) ? 1 : 0, 1);
    }

    @Promise(n = 42, says = "All but THE TAPE, ROWS, SHEETS, SHELVES, THE TRACE is kept")
    void keepOfTables() {
        SizedParts x = withLine();
        x.part(BRIDGE, 10, 1, 5, 0);
        x.keep();
        x.put(0, 10, 30);
        is("table", x.table(0), 1);
        is("part", x.part(BRIDGE, 10, 1, 105, 0), 1);
        is("of the second table", x.flow(1, 0, 4), 30);
        x.again();
        is("tables", x.many(1), 1);
        is("of the first table", x.flow(0, 0, 4), 10);
        is("no second table", x.part(BRIDGE, 10, 1, 105, 0), BAD);
        x.put(0, 10, 29);
        is("table", x.table(0), 1);
        is("part", x.part(BRIDGE, 10, 1, 105, 0), 1);
        is("of the second table", x.flow(1, 0, 4), 29);
    }

    private static SizedParts full() {
        SizedParts x = new SizedParts();
        x.sheet(0, 0, 21);
        for (int i = 0; i < 4; i++) {
            x.put(0, 10, i + 1);
            x.table(0);
        }
        for (int i = 0; i < 9; i++) x.part(i % 3 + 1, 10, i + 1, i % 4 * 100 + i, i % 3 == 2 ? 10 * i - 9 : 1);
        x.part(SOURCE, 24, 3, 0, 0);
        for (int i = 0; i < 4; i++) x.open(2 * i, i + 1, i + 3);
        for (int i = 0; i < 6; i++) x.change(i, i % 3);
        x.breaks(9, 1);
        x.feedAt(19);
        x.start(9259);
        for (int node = 2; node <= 4; node++) x.measured(node, 20);
        type(x, "wish 1=1;".repeat(7) + "wish flow 1>999;");
        x.read();
        return x;
    }

    @Promise(n = 43, says = "NONE: nothing is kept.")
    void againOfNothing() {
        refused("again()", NONE, EdgesOfKept::full, SizedParts::again);
        is("a new one", new SizedParts().again(), NONE);
    }

    @Promise(n = 43, says = "It becomes what was kept latest (which stays): 1.")
    void againAndAgain() {
        SizedParts x = withSources(4);
        x.keep();
        for (int i = 0; i < 3; i++) {
            x.size(0, 9);
            x.change(0, 2);
            x.breaks(0, 2);
            x.feedAt(i);
            is("again", x.again(), 1);
            is("size", x.partOf(0, 2), 4);
            is("broken", x.partOf(0, 3), 0);
            is("changes", x.many(4), 0);
            is("feed", x.many(8), 10);
        }
        x.drop();
        x.keep();
        x.part(SOURCE, 10, 7, 0, 0);
        is("again", x.again(), 1);
        is("the latest", x.many(0), 0);
    }

    @Promise(n = 43, says = "It becomes what was kept latest (which stays): 1.")
    void againOfADroppedPart() {
        SizedParts x = withSources(4, 5);
        x.open(1, 2, 3);
        x.shelf(0, 0, 1);
        x.keep();
        x.drop();
        is("nothing on the shelf", x.taken(0, 0), MISSING);
        x.again();
        is("it is there again", x.taken(0, 5), 1);
        is("open again", x.many(3), 1);
        is("from 2 on", x.sizing(0), 2);
    }
}
