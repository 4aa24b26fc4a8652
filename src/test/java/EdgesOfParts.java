/** Promises 1 to 9: a new object; tables, parts. */
final class EdgesOfParts extends Edges {
    // ---- 1 a new object

    @Promise(n = 1, says = "No parts, no wishes.")
    void newOneHasNoPartsAndNoWishes() {
        SizedParts x = new SizedParts();
        is("parts", x.many(0), 0);
        is("wishes", x.many(2), 0);
        is("part 0", x.partOf(0, 0), BAD);
        is("wish 0", x.worst(0), BAD);
    }

    @Promise(n = 1, says = "No parts, no wishes.")
    void newOneHasNothingElse() {
        SizedParts x = new SizedParts();
        for (int what : new int[] {1, 3, 4, 5, 6, 7, 9, 10}) is("many " + what, x.many(what), 0);
        is("kept", x.again(), NONE);
    }

    @Promise(n = 1, says = "An object is used for at most 512 calls after it has been made")
    void the512thCallAnswers() {
        SizedParts x = withLine(); // 23 calls
        for (int i = 24; i < 512; i++) is("call " + i, x.feedAt(i % 21), i == 24 ? 10 : (i - 1) % 21);
        is("call 512", x.part(BRIDGE, 12, 1, 5, 0), 0);
    }

    // ---- 2 table

    @Promise(n = 2, says = "BAD: no such SHEET")
    void tableOfNoSuchSheet() {
        for (int bad : outside(0, 3)) refused("table(" + bad + ")", BAD, x -> x.table(bad));
    }

    @Promise(n = 2, says = "A TABLE from a SHEET taken for bytes: its number.")
    void tableOfEachSheet() {
        SizedParts x = new SizedParts();
        for (int sheet = 0; sheet <= 3; sheet++) {
            x.sheet(sheet, 0, 21);
            is("table(" + sheet + ")", x.table(sheet), sheet);
        }
    }

    @Promise(n = 2, says = "-13")
    void tableOfAnotherSort() {
        for (int sort = 1; sort <= 3; sort++) {
            int as = sort;
            refused("table of sort " + sort, OTHER, () -> withSheet(as, 21), x -> x.table(3));
        }
    }

    @Promise(n = 2, says = "-11")
    void tableOfMissingSheet() {
        refused("table(3)", MISSING, x -> x.table(3));
    }

    @Promise(n = 2, says = "STATE: it hasn't just 21 numbers as told")
    void tableOfTooFewOrTooMany() {
        for (int n : new int[] {0, 1, 20, 22, 40}) {
            refused("table of " + n, STATE, () -> withSheet(0, n), x -> x.table(3));
        }
    }

    @Promise(n = 2, says = {"STATE: it hasn't just 21 numbers as told", "each have 21 numbers (0 to 30)"})
    void tableOfNumbersOutside() {
        for (int i : new int[] {0, 10, 20}) {
            for (int bad : new int[] {-1, 31, -128, 127}) {
                refused("table with " + bad + " at " + i, STATE, () -> withItem(i, bad), x -> x.table(3));
            }
        }
    }

    @Promise(n = 2, says = "each have 21 numbers (0 to 30), for 0 to 20")
    void tableOf0And30() {
        SizedParts x = new SizedParts();
        bytes(x, 0, 30, 30, 0, 30, 0, 30, 0, 30, 0, 30, 0, 30, 0, 30, 0, 30, 0, 30, 0, 30, 30);
        is("table", x.table(0), 0);
        x.part(BRIDGE, 23, 1, 5, 0);
        is("for 1", x.flow(0, state(1, 0, 0), 4), 30);
        is("for 2", x.flow(0, state(2, 0, 0), 4), 0);
        is("for 19", x.flow(0, state(19, 0, 0), 4), 30);
        is("for 20", x.flow(0, state(20, 0, 0), 4), 30);
    }

    @Promise(n = 2, says = {"FULL", "TABLES, 4 at most, numbered as they come"})
    void fifthTable() {
        SizedParts x = withTables(0);
        for (int i = 0; i < 4; i++) is("table " + i, x.table(0), i);
        is("tables", x.many(1), 4);
        refused("the fifth", FULL, () -> withTables(4), y -> y.table(0));
    }

    @Promise(n = 2, says = {"of several the first named", "BAD: no such SHEET; -13; -11; STATE: it hasn't just 21 numbers as told; FULL"})
    void tableRefusesTheFirstNamed() {
        refused("no such sheet, full", BAD, () -> withTables(4), x -> x.table(4));
        refused("another sort, full", OTHER, () -> withTables(4), x -> x.table(1));
        refused("missing, full", MISSING, () -> withTables(4), x -> x.table(3));
        refused("not 21, full", STATE, () -> withTables(4), x -> x.table(2));
        refused("another sort, not 21", OTHER, () -> withSheet(1, 20), x -> x.table(3));
    }

    private static SizedParts withSheet(int sort, int n) {
        SizedParts x = rich();
        x.sheet(3, sort, n);
        return x;
    }

    private static SizedParts withItem(int i, int v) {
        SizedParts x = withSheet(0, 21);
        x.put(3, i, v);
        return x;
    }

    /** SHEET 0 could be a TABLE, 1 is of shorts, 2 has 20 bytes, 3 is missing. */
    private static SizedParts withTables(int many) {
        SizedParts x = new SizedParts();
        x.sheet(0, 0, 21);
        x.sheet(1, 1, 21);
        x.sheet(2, 0, 20);
        for (int i = 0; i < many; i++) x.table(0);
        return x;
    }

    // ---- 3 part

    @Promise(n = 3, says = {"BAD", "KINDS: 1 BRIDGE, 2 VALVE, 3 PAIR, 4 STORE, 5 SOURCE"})
    void partOfNoSuchKind() {
        for (int bad : outside(1, 5)) refused("kind " + bad, BAD, x -> x.part(bad, 12, 1, 5, 20));
    }

    @Promise(n = 3, says = {"BAD: also one NODE twice", "each from a NODE to another one"})
    void partWithOneNodeTwice() {
        for (int node = 0; node <= 4; node++) {
            int ends = 11 * node;
            refused("ends " + ends, BAD, x -> x.part(SOURCE, ends, 1, 0, 0));
            refused("ends of a bridge " + ends, BAD, x -> x.part(BRIDGE, ends, 1, 5, 0));
        }
    }

    @Promise(n = 3, says = "ends: 10 times the first NODE, and the second one")
    void partWithNoSuchNode() {
        for (int bad : new int[] {5, 9, 15, 45, 49, 50, 51, 54, 60, 99, 100, 101, 112, 432, -1, -10, -12, -21, MIN, MAX}) {
            refused("ends " + bad, BAD, x -> x.part(SOURCE, bad, 1, 0, 0));
        }
    }

    @Promise(n = 3, says = "ends: 10 times the first NODE, and the second one")
    void partBetweenAnyTwoNodes() {
        for (int first = 0; first <= 4; first++) {
            for (int second = 0; second <= 4; second++) {
                if (first == second) continue;
                SizedParts x = new SizedParts();
                is("part", x.part(STORE, 10 * first + second, 1, 0, 0), 0);
                is("ends", x.partOf(0, 1), 10 * first + second);
            }
        }
    }

    @Promise(n = 3, says = "with a SIZE (1 to 9)")
    void partOfSizeOutside() {
        for (int kind = 1; kind <= 5; kind++) {
            int k = kind;
            for (int bad : outside(1, 9)) refused("size " + bad + " of kind " + k, BAD, x -> x.part(k, 12, bad, 5, gateFor(k)));
        }
    }

    @Promise(n = 3, says = "with a SIZE (1 to 9)")
    void partOfSize1And9() {
        for (int kind = 1; kind <= 5; kind++) {
            SizedParts x = rich();
            is("size 1 of kind " + kind, x.part(kind, 12, 1, 5, gateFor(kind)), 6);
            is("size 9 of kind " + kind, x.part(kind, 12, 9, 5, gateFor(kind)), 7);
            is("size", x.partOf(6, 2), 1);
            is("size", x.partOf(7, 2), 9);
        }
    }

    /** TWIN 2 for a PAIR in rich(). */
    private static int gateFor(int kind) {
        return kind == PAIR ? 20 : 0;
    }

    @Promise(n = 3, says = "100 times the TABLE, 10 times ERR, and WARM with 5 added, as digits")
    void partWithNoSuchTable() {
        for (int kind = BRIDGE; kind <= PAIR; kind++) {
            int k = kind;
            for (int bad : new int[] {200, 205, 300, 959, 1000, 2000, MAX}) {
                refused("law " + bad + " of kind " + k, BAD, x -> x.part(k, 12, 1, bad, gateFor(k)));
            }
        }
        refused("no table at all", BAD, SizedParts::new, x -> x.part(BRIDGE, 12, 1, 0, 0));
    }

    @Promise(n = 3, says = "100 times the TABLE, 10 times ERR, and WARM with 5 added, as digits")
    void partOfTheLastTable() {
        SizedParts x = withTables(4);
        int[] laws = {100, 159, 200, 259, 300, 350, 309, 359};
        for (int i = 0; i < laws.length; i++) {
            is("law " + laws[i], x.part(BRIDGE, 12, 1, laws[i], 0), i);
            is("table", x.partOf(i, 4), laws[i] / 100);
            is("err", x.partOf(i, 5), laws[i] / 10 % 10);
            is("warm", x.partOf(i, 6), laws[i] % 10);
        }
        is("law 400", x.part(BRIDGE, 12, 1, 400, 0), BAD);
    }

    @Promise(n = 3, says = "ERR (0 to 5)")
    void partOfErrOutside() {
        for (int kind = BRIDGE; kind <= PAIR; kind++) {
            int k = kind;
            for (int bad : new int[] {60, 65, 69, 70, 99, 160, 199}) {
                refused("law " + bad + " of kind " + k, BAD, x -> x.part(k, 12, 1, bad, gateFor(k)));
            }
        }
    }

    @Promise(n = 3, says = {"ERR (0 to 5)", "WARM (-5 to 4)"})
    void partOfErrAndWarmAtTheirEnds() {
        for (int law : new int[] {0, 9, 50, 59}) {
            SizedParts x = withLine();
            is("law " + law, x.part(BRIDGE, 12, 1, law, 0), 0);
            is("err", x.partOf(0, 5), law / 10);
            is("warm", x.partOf(0, 6), law % 10);
        }
    }

    @Promise(n = 3, says = "WARM (-5 to 4)")
    void partOfLawBelow0() {
        for (int bad : new int[] {-1, -5, -100, MIN}) {
            refused("law " + bad, BAD, x -> x.part(BRIDGE, 12, 1, bad, 0));
            refused("law of a valve " + bad, BAD, x -> x.part(VALVE, 12, 1, bad, 0));
            refused("law of a pair " + bad, BAD, x -> x.part(PAIR, 12, 1, bad, 20));
        }
    }

    @Promise(n = 3, says = "law (of a BRIDGE, VALVE, PAIR; else it counts nothing)")
    void lawOfStoreAndSourceCountsNothing() {
        for (int law : new int[] {MIN, -1, 0, 60, 400, MAX}) {
            SizedParts x = new SizedParts();
            is("store", x.part(STORE, 12, 1, law, 0), 0);
            is("source", x.part(SOURCE, 12, 1, law, 0), 1);
        }
    }

    @Promise(n = 3, says = {"gate: of a VALVE, PAIR 10 times the TWIN (of a VALVE 0), and the GATE", "a VALVE and PAIR with a GATE (a NODE, any)"})
    void partOfNoSuchGate() {
        for (int bad : new int[] {5, 6, 9, -1, -5, MIN}) refused("gate " + bad, BAD, x -> x.part(VALVE, 12, 1, 5, bad));
        for (int bad : new int[] {25, 29, 19, -1, -20, MIN}) refused("gate of a pair " + bad, BAD, x -> x.part(PAIR, 12, 1, 5, bad));
    }

    @Promise(n = 3, says = "a VALVE and PAIR with a GATE (a NODE, any)")
    void partOfAnyGate() {
        SizedParts x = withLine();
        for (int gate = 0; gate <= 4; gate++) {
            is("valve", x.part(VALVE, 12, 1, 5, gate), 2 * gate);
            is("its gate", x.partOf(2 * gate, 7), gate);
            is("pair", x.part(PAIR, 12, 1, 5, gate), 2 * gate + 1);
            is("its gate", x.partOf(2 * gate + 1, 7), gate);
        }
    }

    @Promise(n = 3, says = "10 times the TWIN (of a VALVE 0)")
    void valveWithTwin() {
        for (int bad : new int[] {10, 12, 20, 24, MAX}) refused("gate " + bad, BAD, x -> x.part(VALVE, 12, 1, 5, bad));
    }

    @Promise(n = 3, says = "a PAIR with a TWIN (a VALVE or PAIR ahead of it)")
    void pairWithNoTwinAheadOfIt() {
        for (int twin : new int[] {0, 1, 4, 5, 6, 7, 9, 10, 99}) refused("twin " + twin, BAD, x -> x.part(PAIR, 12, 1, 5, 10 * twin));
        refused("twin far away", BAD, x -> x.part(PAIR, 12, 1, 5, MAX - 3));
        refused("no part at all", BAD, Edges::withLine, x -> x.part(PAIR, 12, 1, 5, 0));
    }

    @Promise(n = 3, says = "a PAIR with a TWIN (a VALVE or PAIR ahead of it)")
    void pairWithValveOrPairAheadOfIt() {
        SizedParts x = rich();
        is("twin 2, a valve", x.part(PAIR, 12, 1, 5, 20), 6);
        is("twin 3, a pair", x.part(PAIR, 12, 1, 5, 30), 7);
        is("twin 7, just ahead", x.part(PAIR, 12, 1, 5, 70), 8);
        is("twin 8, just ahead", x.part(PAIR, 12, 1, 5, 84), 9);
        for (int part = 6; part <= 9; part++) is("twin", x.partOf(part, 8), new int[] {2, 3, 7, 8}[part - 6]);
        is("gate", x.partOf(9, 7), 4);
    }

    @Promise(n = 3, says = {"gate: of a VALVE, PAIR", "else it counts nothing. BAD"})
    void gateOfOthersCountsNothing() {
        for (int gate : new int[] {MIN, -1, 5, 99, MAX}) {
            SizedParts x = withLine();
            is("bridge", x.part(BRIDGE, 12, 1, 5, gate), 0);
            is("store", x.part(STORE, 12, 1, 5, gate), 1);
            is("source", x.part(SOURCE, 12, 1, 5, gate), 2);
        }
    }

    @Promise(n = 3, says = {"FULL", "PARTS, 10 at most, numbered as they come"})
    void eleventhPart() {
        SizedParts x = new SizedParts();
        for (int i = 0; i < 10; i++) is("part " + i, x.part(SOURCE, 12, 1, 0, 0), i);
        is("parts", x.many(0), 10);
        refused("the eleventh", FULL, EdgesOfParts::withTen, y -> y.part(SOURCE, 12, 1, 0, 0));
        x.drop();
        is("another tenth", x.part(SOURCE, 12, 1, 0, 0), 9);
    }

    @Promise(n = 3, says = {"of several the first named", "BAD: also one NODE twice; FULL"})
    void partRefusesBadAheadOfFull() {
        refused("kind", BAD, EdgesOfParts::withTen, x -> x.part(6, 12, 1, 0, 0));
        refused("one node twice", BAD, EdgesOfParts::withTen, x -> x.part(SOURCE, 11, 1, 0, 0));
        refused("size", BAD, EdgesOfParts::withTen, x -> x.part(SOURCE, 12, 10, 0, 0));
        refused("law", BAD, EdgesOfParts::withTen, x -> x.part(BRIDGE, 12, 1, 100, 0));
        refused("gate", BAD, EdgesOfParts::withTen, x -> x.part(VALVE, 12, 1, 5, 5));
        refused("twin", BAD, EdgesOfParts::withTen, x -> x.part(PAIR, 12, 1, 5, 100));
    }

    private static SizedParts withTen() {
        SizedParts x = withLine();
        for (int i = 0; i < 10; i++) x.part(SOURCE, 12, 1, 0, 0);
        return x;
    }

    // ---- 4 partOf

    @Promise(n = 4, says = "(4 to 8: -9, if its KIND has none)")
    void partOfWhatItsKindHasNoneOf() {
        SizedParts x = rich();
        int[][] has = {{4, 5, 6}, {4, 5, 6}, {4, 5, 6, 7}, {4, 5, 6, 7, 8}, {}, {}};
        for (int part = 0; part < 6; part++) {
            for (int what = 4; what <= 8; what++) {
                boolean none = true;
                for (int h : has[part]) none &= h != what;
                is("partOf(" + part + ", " + what + ") is -9: " + none, x.partOf(part, what) == -9 ? 1 : 0, none ? 1 : 0);
            }
        }
    }

    @Promise(n = 4, says = "BAD: there is none such")
    void partOfNone() {
        for (int bad : outside(0, 5)) refused("part " + bad, BAD, x -> x.partOf(bad, 0));
        SizedParts x = withSources(1, 2);
        x.drop();
        is("dropped", x.partOf(1, 2), BAD);
        is("the one ahead", x.partOf(0, 2), 1);
    }

    @Promise(n = 4, says = "BAD: there is none such, another what")
    void partOfAnotherWhat() {
        for (int part = 0; part < 6; part++) {
            int p = part;
            for (int bad : outside(0, 8)) refused("what " + bad, BAD, x -> x.partOf(p, bad));
        }
    }

    // ---- 5 size

    @Promise(n = 5, says = "BAD")
    void sizeOfNoSuchPart() {
        for (int bad : outside(0, 5)) refused("part " + bad, BAD, x -> x.size(bad, 3));
    }

    @Promise(n = 5, says = "BAD")
    void sizeOutside() {
        for (int bad : outside(1, 9)) refused("size " + bad, BAD, x -> x.size(0, bad));
    }

    @Promise(n = 5, says = "A SIZE: what it was.")
    void size1And9() {
        SizedParts x = withSources(4);
        is("1", x.size(0, 1), 4);
        is("9", x.size(0, 9), 1);
        is("9", x.partOf(0, 2), 9);
    }

    // ---- 6 breaks

    @Promise(n = 6, says = "BAD")
    void breaksNoSuchPart() {
        for (int bad : outside(0, 5)) refused("part " + bad, BAD, x -> x.breaks(bad, 2));
    }

    @Promise(n = 6, says = {"BROKEN so (0 to 2)", "BAD"})
    void breaksHowOutside() {
        for (int bad : outside(0, 2)) refused("how " + bad, BAD, x -> x.breaks(0, bad));
    }

    @Promise(n = 6, says = {"BROKEN so (0 to 2): what it was.", "A PART may be BROKEN: open (1), shut (2); 0: whole (at first)."})
    void breaksWholeAtFirst() {
        SizedParts x = withSources(4);
        is("whole at first", x.partOf(0, 3), 0);
        is("open", x.breaks(0, 1), 0);
        is("shut", x.breaks(0, 2), 1);
        is("whole", x.breaks(0, 0), 2);
        is("whole", x.partOf(0, 3), 0);
    }

    @Promise(n = 6, says = "0: whole (at first)")
    void partInPlaceOfBrokenOneIsWhole() {
        SizedParts x = withSources(4);
        x.breaks(0, 2);
        x.drop();
        x.part(SOURCE, 10, 4, 0, 0);
        is("whole", x.partOf(0, 3), 0);
        is("broken ones", x.many(10), 0);
    }

    // ---- 7 drop

    @Promise(n = 7, says = "NONE")
    void dropOfNone() {
        refused("drop()", NONE, SizedParts::new, SizedParts::drop);
        SizedParts x = withSources(1);
        is("the last one", x.drop(), 0);
        is("none", x.drop(), NONE);
    }

    @Promise(n = 7, says = "The latest PART goes")
    void dropTakesTheLatest() {
        SizedParts x = withSources(1, 2, 3);
        is("drop", x.drop(), 2);
        is("part 0", x.partOf(0, 2), 1);
        is("part 1", x.partOf(1, 2), 2);
        is("part 2", x.partOf(2, 2), BAD);
    }

    @Promise(n = 7, says = "(CHANGES of it, those behind them being numbered anew")
    void dropTakesChangesOfIt() {
        SizedParts x = withSources(4, 4);
        x.change(1, 0);
        x.change(0, 0); // number 1, and 0 then
        x.change(1, 2);
        x.change(0, 2); // number 3, and 1 then
        x.drop();
        is("changes", x.many(4), 2);
        wishes(x, 1, "wish flow 0 = 0;");
        is("number 0", x.help(), 1);
        wishes(x, 1, "wish flow 0 = 6;");
        is("number 1", x.help(), 2);
        is("the next number", x.change(0, 1), 2);
    }

    @Promise(n = 7, says = "(CHANGES of it")
    void dropLeavesChangesOfOthers() {
        SizedParts x = withSources(4, 4, 4);
        x.change(0, 0);
        x.change(1, 0);
        x.change(2, 0);
        x.drop();
        is("changes", x.many(4), 2);
        wishes(x, 1, "wish flow 0=0;");
        is("number 0", x.help(), 1);
        wishes(x, 1, "wish flow 1=0;");
        is("number 1", x.help(), 2);
        x.drop();
        x.drop();
        is("changes", x.many(4), 0);
    }

    @Promise(n = 7, says = "and that it is OPEN, too)")
    void dropTakesThatItIsOpen() {
        SizedParts x = withSources(4, 5);
        x.open(0, 1, 2);
        x.open(1, 3, 4);
        x.drop();
        is("open ones", x.many(3), 1);
        x.part(SOURCE, 10, 5, 0, 0);
        is("open ones", x.many(3), 1);
        is("sizing", x.sizing(1), BAD);
        is("opened anew", x.open(1, 9, 9), 2);
    }

    // ---- 8 feedAt

    @Promise(n = 8, says = "BAD")
    void feedAtOutside() {
        for (int bad : outside(0, 20)) refused("feedAt(" + bad + ")", BAD, x -> x.feedAt(bad));
    }

    @Promise(n = 8, says = {"LEVEL of THE FEED: what it was.", "1 (THE FEED, at a LEVEL 0 to 20, told; 10 at first)"})
    void feedAt0And20() {
        SizedParts x = withLine();
        x.part(BRIDGE, 12, 1, 5, 0);
        is("10 at first", x.many(8), 10);
        is("0", x.feedAt(0), 10);
        is("flow at 0", x.flow(0, 0, 4), 0);
        is("20", x.feedAt(20), 0);
        is("flow at 20", x.flow(0, 0, 4), 20);
        is("20", x.many(8), 20);
    }

    // ---- 9 start

    @Promise(n = 9, says = "BAD: it isn't 0 to 9260")
    void startOutside() {
        for (int bad : outside(0, 9260)) refused("start(" + bad + ")", BAD, x -> x.start(bad));
    }

    @Promise(n = 9, says = {"THE START: what it was.", "THE START is a STATE (0 at first)."})
    void start0And9260() {
        SizedParts x = new SizedParts();
        is("0 at first", x.many(9), 0);
        is("0 at first", x.start(9260), 0);
        is("goes", x.goes(4, 0), 9260);
        is("9260", x.start(0), 9260);
        is("goes", x.goes(4, 0), 0);
    }

    @Promise(n = 9, says = "A STATE is LEVELS 0 to 20 of INNER NODES, told as a number: that of 2 times 441, and that of 3 times 21, and that of 4.")
    void startIsToldByLevels() {
        SizedParts x = new SizedParts();
        int[][] levels = {{0, 0, 20}, {0, 1, 0}, {0, 20, 20}, {1, 0, 0}, {20, 0, 0}, {20, 20, 20}};
        for (int[] l : levels) {
            x.start(l[0] * 441 + l[1] * 21 + l[2]);
            wishes(x, 1, "wish node 2 = " + l[0] + " and node 3 = " + l[1] + " and node 4 = " + l[2] + ";");
            is("levels", x.missed(), 0);
        }
    }
}
