/** Promises 33 to 41: the host. */
final class EdgesOfHost extends Edges {
    // ---- 33 sheet

    @Promise(n = 33, says = {"BAD: no such SHEET", "SHEETS 0 to 3"})
    void sheetOfNoSuchNumber() {
        for (int bad : outside(0, 3)) {
            refused("sheet " + bad, BAD, x -> x.sheet(bad, 0, 1));
            refused("missing sheet " + bad, BAD, x -> x.sheet(bad, -1, 1));
        }
    }

    @Promise(n = 33, says = {"BAD: no such SHEET, sort", "are rows of bytes (sort 0), shorts (1), ints (2) or longs (3)"})
    void sheetOfNoSuchSort() {
        for (int bad : outside(-1, 3)) refused("sort " + bad, BAD, x -> x.sheet(0, bad, 1));
    }

    @Promise(n = 33, says = {"n above 40", "40 at most"})
    void sheetOfMoreThan40() {
        for (int sort = 0; sort <= 3; sort++) {
            int s = sort;
            for (int bad : new int[] {41, 42, MAX}) refused(bad + " of sort " + s, BAD, x -> x.sheet(0, s, bad));
        }
    }

    @Promise(n = 33, says = "-14.")
    void sheetOfLessThan0() {
        for (int sort = 0; sort <= 3; sort++) {
            int s = sort;
            for (int bad : new int[] {-1, -2, MIN}) refused(bad + " of sort " + s, BELOW, x -> x.sheet(0, s, bad));
        }
    }

    @Promise(n = 33, says = {"of several the first named", "n above 40; -14"})
    void sheetRefusesBadAheadOfBelow0() {
        refused("sheet 4", BAD, x -> x.sheet(4, 0, -1));
        refused("sort 4", BAD, x -> x.sheet(0, 4, -1));
        refused("sort -2", BAD, x -> x.sheet(0, -2, -1));
    }

    @Promise(n = 33, says = "A SHEET becomes a row of n of a sort, all 0")
    void sheetOf0And40() {
        for (int sort = 0; sort <= 3; sort++) {
            SizedParts x = new SizedParts();
            is("40", x.sheet(sort, sort, 40), 1);
            for (int i = 0; i < 40; i++) is("item " + i, x.item(sort, sort, i), 0);
            is("item 40", x.item(sort, sort, 40), OUTSIDE);
            x.put(sort, 39, 5);
            x.put(sort, 0, 5);
            is("anew", x.sheet(sort, sort, 40), 1);
            is("all 0 again", x.item(sort, sort, 39), 0);
            is("all 0 again", x.item(sort, sort, 0), 0);
            is("0", x.sheet(sort, sort, 0), 1);
            is("item 0", x.item(sort, sort, 0), OUTSIDE);
        }
    }

    @Promise(n = 33, says = {"or missing (sort -1; n counts nothing then): 1.", "40 at most, or missing (at first)"})
    void sheetThatIsMissing() {
        SizedParts x = new SizedParts();
        for (int sheet = 0; sheet <= 3; sheet++) is("at first", x.item(sheet, 0, 0), MISSING);
        for (int n : new int[] {0, 1, 41, -1, MIN, MAX}) {
            x.sheet(3, 0, 1);
            is("missing, n " + n, x.sheet(3, -1, n), 1);
            is("missing", x.item(3, 0, 0), MISSING);
        }
        is("missing already", x.sheet(3, -1, 0), 1);
    }

    // ---- 34 put

    @Promise(n = 34, says = "BAD: no such SHEET")
    void putToNoSuchSheet() {
        for (int bad : outside(0, 3)) refused("sheet " + bad, BAD, x -> x.put(bad, 0, 1));
    }

    @Promise(n = 34, says = "-11")
    void putToMissingSheet() {
        refused("sheet 3", MISSING, x -> x.put(3, 0, 1));
    }

    @Promise(n = 34, says = "-12")
    void putOutside() {
        for (int bad : outside(0, 20)) refused("item " + bad + " of bytes", OUTSIDE, x -> x.put(0, bad, 1));
        for (int bad : outside(0, 2)) refused("item " + bad + " of shorts", OUTSIDE, x -> x.put(1, bad, 1));
        for (int bad : outside(0, 0)) refused("item " + bad + " of longs", OUTSIDE, x -> x.put(2, bad, 1));
        SizedParts x = new SizedParts();
        x.sheet(0, 2, 0);
        for (int bad : outside(0, -1)) is("item " + bad + " of none", x.put(0, bad, 1), OUTSIDE);
    }

    @Promise(n = 34, says = {"of several the first named", "BAD: no such SHEET; -11; -12"})
    void putRefusesTheFirstNamed() {
        refused("missing, outside", MISSING, x -> x.put(3, -1, 1));
        refused("missing, outside", MISSING, x -> x.put(3, 40, 1));
        refused("no such sheet, outside", BAD, x -> x.put(4, -1, 1));
    }

    @Promise(n = 34, says = "Item i becomes v, narrowed to its sort: 1.")
    void putOfBytesWraps() {
        int[][] due = {{127, 127}, {128, -128}, {255, -1}, {256, 0}, {-128, -128}, {-129, 127}, {MAX, -1}, {MIN, 0}};
        narrowed(0, due);
    }

    @Promise(n = 34, says = "Item i becomes v, narrowed to its sort: 1.")
    void putOfShortsWraps() {
        int[][] due = {{32767, 32767}, {32768, -32768}, {65535, -1}, {65536, 0}, {-32768, -32768}, {-32769, 32767}, {MAX, -1}, {MIN, 0}};
        narrowed(1, due);
    }

    @Promise(n = 34, says = "Item i becomes v, narrowed to its sort: 1.")
    void putOfIntsAndLongsWrapsNothing() {
        int[][] due = {{MIN, MIN}, {MAX, MAX}, {-1, -1}, {65536, 65536}, {256, 256}};
        narrowed(2, due);
        narrowed(3, due);
    }

    private void narrowed(int sort, int[][] due) {
        SizedParts x = new SizedParts();
        x.sheet(0, sort, 3);
        for (int[] d : due) {
            for (int i : new int[] {0, 2}) {
                is("put", x.put(0, i, d[0]), 1);
                is(d[0] + " of sort " + sort, x.item(0, sort, i), d[1]);
            }
            is("the others stay", x.item(0, sort, 1), 0);
        }
    }

    // ---- 35 item

    @Promise(n = 35, says = "BAD: no such SHEET, sort")
    void itemOfNoSuchSheet() {
        for (int bad : outside(0, 3)) refused("sheet " + bad, BAD, x -> x.item(bad, 0, 0));
    }

    @Promise(n = 35, says = {"BAD: no such SHEET, sort", "taken for a sort (0 to 3"})
    void itemOfNoSuchSort() {
        for (int sheet = 0; sheet <= 3; sheet++) {
            int s = sheet;
            for (int bad : outside(0, 3)) refused("sort " + bad, BAD, x -> x.item(s, bad, 0));
        }
    }

    @Promise(n = 35, says = "-13")
    void itemOfAnotherSort() {
        for (int sort = 0; sort <= 3; sort++) {
            for (int as = 0; as <= 3; as++) {
                if (as == sort) continue;
                int s = sort, a = as;
                refused("sort " + s + " as " + a, OTHER, () -> withRow(s), x -> x.item(3, a, 0));
            }
        }
    }

    @Promise(n = 35, says = "-11")
    void itemOfMissingSheet() {
        for (int sort = 0; sort <= 3; sort++) {
            int s = sort;
            refused("sort " + s, MISSING, x -> x.item(3, s, 0));
        }
    }

    @Promise(n = 35, says = "-12.")
    void itemOutside() {
        for (int sort = 0; sort <= 3; sort++) {
            int s = sort;
            for (int bad : outside(0, 2)) refused("item " + bad, OUTSIDE, () -> withRow(s), x -> x.item(3, s, bad));
        }
    }

    @Promise(n = 35, says = {"of several the first named", "BAD: no such SHEET, sort; -13; -11; -12"})
    void itemRefusesTheFirstNamed() {
        refused("another sort, outside", OTHER, x -> x.item(0, 1, -1));
        refused("another sort, outside", OTHER, x -> x.item(1, 0, 40));
        refused("missing, outside", MISSING, x -> x.item(3, 0, -1));
        refused("no such sort, missing, outside", BAD, x -> x.item(3, 4, -1));
        refused("no such sheet, outside", BAD, x -> x.item(4, 0, -1));
    }

    /** SHEET 3 is three of a sort. */
    private static SizedParts withRow(int sort) {
        SizedParts x = rich();
        x.sheet(3, sort, 3);
        x.put(3, 1, 5);
        return x;
    }

    @Promise(n = 35, says = "of longs the lowest 32 bits")
    void itemOfLongs() {
        SizedParts x = new SizedParts();
        x.sheet(0, 3, 2);
        for (int v : new int[] {-1, MIN, MAX, 0x80, 0x8000, 7}) {
            x.put(0, 1, v);
            is("item", x.item(0, 3, 1), v);
            is("the one ahead", x.item(0, 3, 0), 0);
        }
    }

    @Promise(n = 35, says = "(An item may be as low as these, too.)")
    void itemAsLowAsRefusals() {
        for (int sort = 0; sort <= 3; sort++) {
            SizedParts x = withRow(sort);
            for (int v : new int[] {-1, -11, -12, -13}) {
                is("put", x.put(3, 2, v), 1);
                is("item", x.item(3, sort, 2), v);
            }
        }
    }

    // ---- 36 sizes

    @Promise(n = 36, says = "BAD: no such SHEET, PART, n")
    void sizesOfNoSuchSheet() {
        for (int bad : outside(0, 3)) refused("sheet " + bad, BAD, x -> x.sizes(0, bad, 0, 1));
    }

    @Promise(n = 36, says = "BAD: no such SHEET, PART, n")
    void sizesOfNoSuchPart() {
        for (int bad : outside(0, 5)) {
            refused("part " + bad, BAD, x -> x.sizes(bad, 1, 0, 1));
            refused("part " + bad + ", none of them", BAD, x -> x.sizes(bad, 1, 0, 0));
        }
    }

    @Promise(n = 36, says = {"BAD: no such SHEET, PART, n", "n (0 to 10) of them"})
    void sizesOfNoSuchN() {
        for (int bad : outside(0, 10)) refused("n " + bad, BAD, x -> x.sizes(0, 1, 0, bad));
    }

    @Promise(n = 36, says = "-13")
    void sizesOfAnotherSort() {
        for (int sort : new int[] {0, 2, 3}) {
            for (int n : new int[] {0, 1, 3}) refused("sort " + sort + ", n " + n, OTHER, () -> withRow(sort), x -> x.sizes(0, 3, 0, n));
        }
    }

    @Promise(n = 36, says = "-11")
    void sizesOfMissingSheet() {
        for (int n : new int[] {0, 1, 10}) refused("n " + n, MISSING, x -> x.sizes(0, 3, 0, n));
    }

    @Promise(n = 36, says = "-12: what stood ahead came.")
    void sizesOutside() {
        SizedParts x = rich(); // SHEET 1: 3, 10, 9
        is("from 0 on", x.sizes(2, 1, 0, 4), OUTSIDE);
        int[] due = {2, 5, 3, 2, 9, 3};
        for (int part = 0; part < 6; part++) is("part " + part, x.partOf(part, 2), due[part]);
        is("from 2 on", x.sizes(0, 1, 2, 2), OUTSIDE);
        is("part 0", x.partOf(0, 2), 9);
        is("part 1", x.partOf(1, 2), 5);
    }

    @Promise(n = 36, says = "-12: what stood ahead came.")
    void sizesOutsideAtOnce() {
        for (int bad : outside(0, 2)) {
            refused("item " + bad + ", n 1", OUTSIDE, x -> x.sizes(0, 1, bad, 1));
            refused("item " + bad + ", n 10", OUTSIDE, x -> x.sizes(0, 1, bad, 10));
        }
    }

    @Promise(n = 36, says = "n (0 to 10) of them from item i on")
    void sizesOfNoneOfThem() {
        for (int i : new int[] {0, 2, 3, -1, MIN, MAX}) is("item " + i, rich().sizes(0, 1, i, 0), 0);
        SizedParts x = rich();
        x.sizes(0, 1, 0, 0);
        is("nothing came", x.partOf(0, 2), 2);
    }

    @Promise(n = 36, says = {"n (0 to 10) of them from item i on", "how many came"})
    void sizesOfTen() {
        SizedParts x = withSources(5, 5, 5, 5, 5, 5, 5, 5, 5, 5);
        shorts(x, 0, 0, 1, 2, 3, 4, 5, 6, 7, 8, 9, 9);
        is("ten", x.sizes(0, 0, 1, 10), 10);
        for (int part = 0; part < 10; part++) is("part " + part, x.partOf(part, 2), Math.min(9, part + 1));
        is("one of them outside", x.sizes(0, 0, 2, 10), OUTSIDE);
        is("the last, to the last part", x.sizes(9, 0, 1, 1), 1);
        is("part 9", x.partOf(9, 2), 1);
    }

    @Promise(n = 36, says = "(such as aren't 1 to 9, or of no PART, are left out)")
    void sizesThatAreLeftOut() {
        SizedParts x = withSources(5, 5, 5, 5, 5, 5);
        shorts(x, 0, 0, 1, 9, 10, -1, -32768);
        is("1 and 9 came", x.sizes(0, 0, 0, 6), 2);
        int[] due = {5, 1, 9, 5, 5, 5};
        for (int part = 0; part < 6; part++) is("part " + part, x.partOf(part, 2), due[part]);
        shorts(x, 1, 2, 3, 4);
        is("of no part", x.sizes(4, 1, 0, 3), 2);
        is("part 4", x.partOf(4, 2), 2);
        is("part 5", x.partOf(5, 2), 3);
        x.part(SOURCE, 10, 7, 0, 0);
        is("nothing is left for one that comes later", x.partOf(6, 2), 7);
    }

    @Promise(n = 36, says = {"of several the first named", "BAD: no such SHEET, PART, n; -13; -11; -12"})
    void sizesRefusesTheFirstNamed() {
        refused("no such part, missing", BAD, x -> x.sizes(6, 3, 0, 1));
        refused("no such n, another sort", BAD, x -> x.sizes(0, 0, 0, 11));
        refused("no such part, outside", BAD, x -> x.sizes(-1, 1, -1, 1));
        refused("another sort, outside", OTHER, x -> x.sizes(0, 0, -1, 1));
        refused("missing, outside", MISSING, x -> x.sizes(0, 3, -1, 1));
    }

    // ---- 37 shelf

    @Promise(n = 37, says = {"BAD: no such SHELF", "SHELVES 0 to 3"})
    void shelfOfNoSuchNumber() {
        for (int bad : outside(0, 3)) {
            for (int what = 0; what <= 2; what++) {
                int w = what;
                refused("shelf " + bad + ", what " + w, BAD, x -> x.shelf(bad, w, 0));
            }
        }
    }

    @Promise(n = 37, says = "BAD: no such SHELF, what")
    void shelfOfAnotherWhat() {
        for (int bad : outside(0, 2)) refused("what " + bad, BAD, x -> x.shelf(0, bad, 0));
    }

    @Promise(n = 37, says = "BAD: no such SHELF, what, thing.")
    void shelfOfNoSuchThing() {
        for (int bad : outside(0, 5)) refused("part " + bad, BAD, x -> x.shelf(0, 0, bad));
        for (int bad : outside(0, 3)) refused("sheet " + bad, BAD, x -> x.shelf(0, 1, bad));
    }

    @Promise(n = 37, says = {"the row of SHEET n (1; nothing, if missing)", "nothing (2): 1."})
    void shelfOfNothing() {
        for (int shelf = 0; shelf <= 3; shelf++) {
            SizedParts x = rich();
            is("part", x.shelf(shelf, 0, 5), 1);
            is("taken", x.taken(shelf, 0), 5);
            is("a missing sheet", x.shelf(shelf, 1, 3), 1);
            is("nothing", x.taken(shelf, 0), MISSING);
            is("row", x.shelf(shelf, 1, 1), 1);
            is("taken", x.taken(shelf, 11), 3);
            for (int n : new int[] {0, -1, 99, MIN, MAX}) is("nothing", x.shelf(shelf, 2, n), 1);
            is("nothing", x.taken(shelf, 11), MISSING);
        }
    }

    @Promise(n = 37, says = "or nothing (at first)")
    void shelvesHoldNothingAtFirst() {
        SizedParts x = new SizedParts();
        for (int shelf = 0; shelf <= 3; shelf++) {
            is("as a part", x.taken(shelf, 0), MISSING);
            is("as a row", x.taken(shelf, 10), MISSING);
        }
        x.part(SOURCE, 12, 1, 0, 0);
        x.sheet(0, 0, 1);
        for (int shelf = 0; shelf <= 3; shelf++) {
            is("as a part", x.taken(shelf, 0), MISSING);
            is("as a row", x.taken(shelf, 10), MISSING);
            is("no act", x.act(shelf, 0, 5), 0);
        }
    }

    @Promise(n = 37, says = "a SHEET's row (that of then)")
    void shelfHoldsTheRowOfThen() {
        SizedParts x = rich();
        x.sheet(1, 1, 7);
        is("laid anew", x.taken(1, 11), 3);
        x.sheet(1, 0, 3);
        is("of another sort", x.taken(1, 11), 3);
        x.sheet(1, -1, 0);
        is("missing", x.taken(1, 11), 3);
        is("missing now", x.shelf(1, 1, 1), 1);
        is("nothing", x.taken(1, 11), MISSING);
        x.sheet(1, 2, 0);
        x.shelf(1, 1, 1);
        is("a row of none", x.taken(1, 12), 0);
    }

    @Promise(n = 37, says = "hold a PART (of its kind as it is now; nothing, if there is none such any more)")
    void shelfHoldsThePartAsItIsNow() {
        SizedParts x = withLine();
        x.part(BRIDGE, 12, 1, 5, 0);
        x.part(VALVE, 12, 1, 5, 0);
        x.shelf(0, 0, 1);
        is("whole", x.taken(0, 2), 1);
        x.breaks(1, 1);
        is("broken", x.taken(0, 6), 1);
        x.breaks(1, 0);
        is("whole again", x.taken(0, 6), OTHER);
        x.drop();
        is("none such any more", x.taken(0, 0), MISSING);
        is("none such any more", x.act(0, 0, 5), 0);
        x.part(STORE, 12, 1, 5, 0);
        is("of its kind as it is now", x.taken(0, 4), 1);
    }

    // ---- 38 taken

    @Promise(n = 38, says = "BAD: no such SHELF, as")
    void takenFromNoSuchShelf() {
        for (int bad : outside(0, 3)) refused("shelf " + bad, BAD, x -> x.taken(bad, 0));
    }

    @Promise(n = 38, says = {"BAD: no such SHELF, as", "a thing of kind as (0 to 6, or one under it)", "(as 10 to 13)"})
    void takenForNoSuchThing() {
        for (int shelf = 0; shelf <= 3; shelf++) {
            int s = shelf;
            for (int bad : new int[] {-1, 7, 8, 9, 14, MIN, MAX}) refused("as " + bad, BAD, x -> x.taken(s, bad));
        }
    }

    @Promise(n = 38, says = "-13")
    void takenForAnotherKind() {
        for (int as : new int[] {4, 5, 6, 10, 11, 12, 13}) refused("a pair as " + as, OTHER, x -> x.taken(0, as));
        for (int as : new int[] {0, 1, 2, 3, 4, 5, 6, 10, 12, 13}) refused("shorts as " + as, OTHER, x -> x.taken(1, as));
        for (int as : new int[] {1, 2, 3, 4, 5, 10}) refused("a broken source as " + as, OTHER, x -> x.taken(2, as));
    }

    @Promise(n = 38, says = "-11.")
    void takenOfNothing() {
        for (int as : new int[] {0, 1, 2, 3, 4, 5, 6, 10, 11, 12, 13}) refused("as " + as, MISSING, x -> x.taken(3, as));
    }

    @Promise(n = 38, says = {"of several the first named", "BAD: no such SHELF, as; -13; -11"})
    void takenRefusesBadFirst() {
        refused("nothing as 7", BAD, x -> x.taken(3, 7));
        refused("a row as 14", BAD, x -> x.taken(1, 14));
        refused("shelf 4 as 7", BAD, x -> x.taken(4, 7));
    }

    @Promise(n = 38, says = {
        "a thing of kind as (0 to 6, or one under it): its number",
        "KINDS of things: 0 part, 1 bridge (under part), 2 valve (under bridge), 3 pair (under valve), 4 store (under part), 5 source (under part), "
            + "6 broken (under part: any PART that is BROKEN)."})
    void takenForItsKindAndThoseAbove() {
        SizedParts x = rich();
        x.breaks(5, 0);
        String[] kinds = {"01", "01", "012", "0123", "04", "05"};
        for (int part = 0; part < 6; part++) {
            x.shelf(0, 0, part);
            for (int as = 0; as <= 6; as++) is(part + " as " + as, x.taken(0, as), kinds[part].indexOf('0' + as) >= 0 ? part : OTHER);
            x.breaks(part, 1 + part % 2);
            for (int as = 0; as <= 6; as++) is(part + ", broken, as " + as, x.taken(0, as), as == 0 || as == 6 ? part : OTHER);
        }
    }

    @Promise(n = 38, says = "for a row of sort as - 10 (as 10 to 13): how many items.")
    void takenForRows() {
        SizedParts x = new SizedParts();
        for (int sort = 0; sort <= 3; sort++) {
            for (int n : new int[] {0, 1, 40}) {
                x.sheet(sort, sort, n);
                x.shelf(sort, 1, sort);
                for (int as = 10; as <= 13; as++) is("sort " + sort + " as " + as, x.taken(sort, as), as == 10 + sort ? n : OTHER);
            }
        }
    }

    // ---- 39 act

    @Promise(n = 39, says = "0, and no TRACE then: no such SHELF")
    void actOfNoSuchShelf() {
        for (int bad : outside(0, 3)) untraced("shelf " + bad, x -> x.act(bad, 0, 5));
    }

    @Promise(n = 39, says = {"no such SHELF, act", "An ACT (0 to 3)"})
    void actOfNoSuchAct() {
        for (int bad : outside(0, 3)) untraced("act " + bad, x -> x.act(0, bad, 5));
    }

    @Promise(n = 39, says = "act, nothing, a row.")
    void actOfNothingOrARow() {
        for (int act = 0; act <= 3; act++) {
            int a = act;
            untraced("nothing", x -> x.act(3, a, 5));
            untraced("a row", x -> x.act(1, a, 5));
            untraced("a part that was dropped", x -> {
                x.drop();
                return x.act(2, a, 5);
            });
        }
    }

    private void untraced(String what, Call call) {
        SizedParts x = rich();
        is("a trace ahead of it", x.many(7), 10);
        is(what, call.on(x), 0);
        is("bodies", x.many(7), 0);
        is("body 0", x.trace(0), NONE);
    }

    /** A PART of a KIND and SIZE, whose number is n, on SHELF 0. */
    private static SizedParts thing(int kind, int n, int size) {
        SizedParts x = withLine();
        for (int i = 0; i < n; i++) x.part(VALVE, 12, 1, 5, 0);
        x.part(kind, 12, size, 5, 0);
        x.shelf(0, 0, n);
        return x;
    }

    private void acts(SizedParts x, int act, int with, int due, int... bodies) {
        is("act " + act + " of " + with, x.act(0, act, with), due);
        is("bodies of act " + act, x.many(7), bodies.length);
        for (int i = 0; i < bodies.length; i++) is("body " + i + " of act " + act, x.trace(i), bodies[i]);
    }

    @Promise(n = 39, says = "ACTS of things, with a number x (ints that wrap)")
    void actsWrap() {
        SizedParts bridge = thing(BRIDGE, 0, 9);
        acts(bridge, 0, MAX, MIN + 5, 20, 10);
        acts(bridge, 0, MIN, MIN + 6, 20, 10);
        SizedParts store = thing(STORE, 0, 1);
        acts(store, 0, MAX, MIN, 10);
        acts(store, 0, MIN, MIN + 1, 10);
        acts(store, 1, (1 << 30) - 1, MIN, 50, 11, 10); // 0 less twice 2^30
        acts(store, 1, MAX, 0, 50, 11, 10); // twice 2^31
        acts(store, 1, 1 << 30, MAX - 1, 50, 11, 10);
        SizedParts valve = thing(VALVE, 1, 4);
        acts(valve, 1, 1 << 30, MIN + 2 + 3, 30, 11, 20, 10, 20, 10); // twice 2^30 + 1, and 3
        acts(valve, 3, 1 << 30, (MIN + 4) * 5, 31, 13, 30, 11, 20, 10, 20, 10); // MIN + 5 ^ 1
        SizedParts pair = thing(PAIR, 1, 3);
        acts(pair, 2, MIN, MAX / 2, 41, 12); // MIN less 1 is MAX; by 3 less 1
        SizedParts broken = thing(SOURCE, 1, 9);
        broken.breaks(1, 2);
        acts(broken, 0, 1 << 29, (1 << 29) * 7 + 63, 70, 10);
    }

    @Promise(n = 39, says = "Answers below 0, where not told otherwise, are refusals")
    void actsAsLowAsRefusals() {
        SizedParts x = thing(STORE, 0, 1);
        for (int low = -20; low < 0; low++) {
            acts(x, 0, low - 1, low, 10);
            acts(x, 2, low, low, 12);
        }
    }

    @Promise(n = 39, says = "12 parts: x by (a - n), the rest away")
    void partsCutsTowards0AndWraps() {
        SizedParts x = thing(SOURCE, 2, 5); // by 3
        acts(x, 2, 8, 2, 12);
        acts(x, 2, -8, -2, 12);
        acts(x, 2, 2, 0, 12);
        acts(x, 2, -2, 0, 12);
        x.size(2, 1); // by -1
        acts(x, 2, 8, -8, 12);
        acts(x, 2, MIN, MIN, 12);
        acts(x, 2, MAX, -MAX, 12);
    }

    @Promise(n = 39, says = {"-15 if these are the same; that is all that act() answers then", "-15 parted by 0"})
    void partsBy0() {
        for (int n : new int[] {1, 9}) {
            SizedParts store = thing(STORE, n, n);
            for (int x : new int[] {0, 1, -1, MIN, MAX}) acts(store, 2, x, BY_ZERO, 12);
            acts(store, 0, 5, 5 + n, 10);
            SizedParts pair = thing(PAIR, n, n);
            acts(pair, 2, 5, BY_ZERO, 41, 12);
            SizedParts source = thing(SOURCE, n, n);
            acts(source, 3, 5, BY_ZERO, 60, 13, 11, 10, 12);
            source.breaks(n, 1);
            acts(source, 2, 5, BY_ZERO, 12);
        }
        SizedParts first = thing(SOURCE, 0, 1);
        acts(first, 2, 5, 5, 12);
    }

    @Promise(n = 39, says = {"-15 if these are the same", "such a call changes nothing"})
    void partsBy0ChangesTheTraceAlone() {
        SizedParts x = rich(), y = rich();
        x.size(5, 5);
        y.size(5, 5);
        x.act(2, 2, 7);
        y.act(2, 2, 8);
        is("a broken source of size 5, number 5", x.act(2, 2, 9), BY_ZERO);
        is("all else is as it was", Told.by(x).equals(Told.by(y)) ? 1 : 0, 1);
    }

    // ---- 40 trace

    @Promise(n = 40, says = "NONE")
    void traceOfNone() {
        for (int bad : outside(0, 9)) refused("body " + bad, NONE, x -> x.trace(bad));
        for (int bad : new int[] {29, 30, 31}) refused("body " + bad, NONE, x -> x.trace(bad));
        is("no act yet", new SizedParts().trace(0), NONE);
    }

    @Promise(n = 40, says = {"THE TRACE's i-th body.", "as they began (left first); the first 30 are kept"})
    void traceOfTheLongestAct() {
        SizedParts x = rich();
        int[] due = {31, 13, 30, 11, 40, 20, 10, 40, 20, 10};
        for (int i = 0; i < 10; i++) is("body " + i, x.trace(i), due[i]);
    }

    @Promise(n = 40, says = "numbers of the bodies that ran in the latest act() (one that answers -15, too)")
    void traceOfTheLatestAct() {
        SizedParts x = thing(SOURCE, 1, 1);
        acts(x, 3, 5, BY_ZERO, 60, 13, 11, 10, 12);
        acts(x, 0, 5, 6, 10);
        is("no second", x.trace(1), NONE);
        acts(x, 2, 5, BY_ZERO, 12);
    }

    // ---- 41 many

    @Promise(n = 41, says = "BAD: another what.")
    void manyOfAnotherWhat() {
        for (int bad : outside(0, 10)) refused("what " + bad, BAD, x -> x.many(bad));
    }

    @Promise(n = 41, says = "7 bodies of THE TRACE (those kept, 30 at most)")
    void manyBodies() {
        is("at first", new SizedParts().many(7), 0);
        is("the longest", rich().many(7), 10);
    }

    @Promise(n = 41, says = "How many: what = 0 PARTS, 1 TABLES, 2 WISHES, 3 OPEN PARTS, 4 CHANGES, 5 ROWS, 6 bytes of THE TAPE")
    void manyAtTheirMost() {
        SizedParts x = withLine();
        for (int i = 0; i < 3; i++) x.table(0);
        for (int i = 0; i < 10; i++) x.part(SOURCE, 10, 5, 0, 0);
        for (int i = 0; i < 10; i++) x.breaks(i, 1 + i % 2);
        for (int i = 0; i < 4; i++) x.open(i, 1, 1);
        for (int i = 0; i < 6; i++) x.change(i, 0);
        wishes(x, 8, "wish 1=1;".repeat(8));
        x.prove();
        type(x, " ".repeat(220));
        x.feedAt(20);
        x.start(9260);
        int[] due = {10, 4, 8, 4, 6, 4, 220, 0, 20, 9260, 10};
        for (int what = 0; what <= 10; what++) is("many " + what, x.many(what), due[what]);
    }

    @Promise(n = 41, says = "8 LEVEL of THE FEED, 9 THE START, 10 BROKEN PARTS")
    void manyAtTheirLeast() {
        SizedParts x = rich();
        x.breaks(5, 0);
        x.feedAt(0);
        x.start(0);
        for (int what = 8; what <= 10; what++) is("many " + what, x.many(what), 0);
    }
}
