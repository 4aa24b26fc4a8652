/** Promises 21 to 32: sizing, breaks, changes. */
final class EdgesOfSizing extends Edges {
    // ---- 21 open

    @Promise(n = 21, says = "BAD: there is none such")
    void openOfNoSuchPart() {
        for (int bad : outside(0, 5)) {
            refused("part " + bad, BAD, x -> x.open(bad, 1, 4));
            refused("part " + bad + ", not any more", BAD, x -> x.open(bad, 1, 0));
        }
    }

    @Promise(n = 21, says = {"they are not as told", "each may have a SIZE from one to another one (1 to 9, told"})
    void openFromOrToOutside() {
        int[][] bad = {{0, 1}, {0, 3}, {-1, 1}, {9, 10}, {10, 10}, {8, 10}, {1, -1}, {MIN, 1}, {1, MIN}, {1, MAX}, {MAX, MAX}, {MIN, MIN},
            {MIN, MAX}, {MAX, MIN}, {MAX, 1}};
        for (int[] b : bad) {
            refused("from " + b[0] + " to " + b[1], BAD, x -> x.open(1, b[0], b[1]));
            refused("an open one from " + b[0] + " to " + b[1], BAD, x -> x.open(0, b[0], b[1]));
        }
    }

    @Promise(n = 21, says = {"they are not as told", "A PART is OPEN from one SIZE to another one"})
    void openBackwards() {
        for (int[] b : new int[][] {{2, 1}, {9, 8}, {9, 1}, {5, 4}}) {
            refused("from " + b[0] + " to " + b[1], BAD, x -> x.open(1, b[0], b[1]));
        }
    }

    @Promise(n = 21, says = "4 numbers at most)")
    void openFromOneToOneTooFar() {
        for (int from = 1; from <= 5; from++) {
            int f = from;
            refused("from " + f + " to " + (f + 4), BAD, x -> x.open(1, f, f + 4));
        }
        refused("from 1 to 9", BAD, x -> x.open(1, 1, 9));
    }

    @Promise(n = 21, says = "(1 to 9, told; 4 numbers at most)")
    void openFromOneToOneThatMayBe() {
        for (int from = 1; from <= 9; from++) {
            for (int to = from; to <= Math.min(9, from + 3); to++) {
                SizedParts x = withSources(5);
                is("open", x.open(0, from, to), 1);
                x.prove();
                is("the least", x.row(0, 1), from);
                for (int size = 0; size <= 10; size++) {
                    x.alterRow(0, 1, size);
                    is(size + " of " + from + " to " + to, x.judge(), size >= from && size <= to ? 0 : 1);
                }
            }
        }
    }

    @Promise(n = 21, says = {"FULL", "OPEN PARTS, 4 at most"})
    void fifthOpenPart() {
        SizedParts x = withSources(1, 1, 1, 1, 1);
        for (int i = 0; i < 4; i++) is("open " + i, x.open(i, 1, 1), i + 1);
        refused("the fifth", FULL, EdgesOfSizing::withFourOpen, y -> y.open(4, 1, 1));
        is("one that is open", x.open(2, 3, 3), 4);
        is("the fifth that is closed", x.open(4, 1, 0), 4);
        is("one less", x.open(0, 1, 0), 3);
        is("the fifth", x.open(4, 1, 1), 4);
    }

    @Promise(n = 21, says = {"of several the first named", "they are not as told; FULL"})
    void openRefusesBadAheadOfFull() {
        refused("too far", BAD, EdgesOfSizing::withFourOpen, x -> x.open(4, 1, 5));
        refused("0", BAD, EdgesOfSizing::withFourOpen, x -> x.open(4, 0, 1));
        refused("no such part", BAD, EdgesOfSizing::withFourOpen, x -> x.open(5, 1, 1));
    }

    private static SizedParts withFourOpen() {
        SizedParts x = withSources(1, 1, 1, 1, 1);
        for (int i = 0; i < 4; i++) x.open(i, 1, 4);
        x.prove();
        return x;
    }

    @Promise(n = 21, says = "(to 0: not any more, whatever from is)")
    void openToZero() {
        for (int from : new int[] {MIN, -1, 0, 1, 9, 10, MAX}) {
            SizedParts x = withSources(5, 5);
            x.open(0, 1, 2);
            x.open(1, 3, 4);
            is("not any more, from " + from, x.open(0, from, 0), 1);
            is("the other one is the first now", x.sizing(0), 3);
            is("one that isn't open", x.open(0, from, 0), 1);
        }
    }

    // ---- 22 sizing

    @Promise(n = 22, says = "BAD: there are not so many")
    void sizingOfNotSoMany() {
        for (int bad : outside(-1, 1)) refused("what " + bad, BAD, x -> x.sizing(bad));
        for (int bad : outside(-1, 3)) refused("what " + bad, BAD, EdgesOfSizing::withFourOpen, x -> x.sizing(bad));
        for (int bad : outside(-1, -1)) refused("what " + bad, BAD, SizedParts::new, x -> x.sizing(bad));
    }

    @Promise(n = 22, says = "NONE: with no row.")
    void sizingWithNoRow() {
        for (int what = -1; what <= 1; what++) {
            int w = what;
            refused("what " + what, NONE, EdgesOfSizing::withNoRow, x -> x.sizing(w));
        }
    }

    /** Two OPEN PARTS and ROWS, and a WISH that nothing meets. */
    private static SizedParts withNoRow() {
        SizedParts x = withSources(1, 1);
        x.open(0, 1, 4);
        x.open(1, 1, 4);
        x.prove();
        read(x, "wish flow 0+flow 1=9;");
        return x;
    }

    @Promise(n = 22, says = {"of several the first named", "BAD: there are not so many; NONE"})
    void sizingRefusesBadAheadOfNone() {
        for (int bad : outside(-1, 1)) refused("what " + bad, BAD, EdgesOfSizing::withNoRow, x -> x.sizing(bad));
    }

    @Promise(n = 22, says = "(Without OPEN PARTS: 0, if all WISHES are MET.)")
    void sizingWithoutOpenParts() {
        SizedParts x = withSources(5);
        is("no wish", x.sizing(-1), 0);
        wishes(x, 1, "wish flow 0=5;");
        is("met", x.sizing(-1), 0);
        is("there is no first", x.sizing(0), BAD);
        wishes(x, 1, "wish flow 0=4;");
        is("missed", x.sizing(-1), NONE);
        is("there is no first", x.sizing(0), BAD);
    }

    @Promise(n = 22, says = {"SIZING: what = -1 the sum; else the SIZE of the what-th OPEN PART (from 0).", "of all rows of SIZES of OPEN PARTS, by numbers",
        "that with the least sum"})
    void sizingIsTheLeastSum() {
        SizedParts x = withSources(1, 9);
        x.open(1, 1, 4);
        x.open(0, 2, 5);
        is("without wishes", x.sizing(-1), 3);
        is("part 0", x.sizing(0), 2);
        is("part 1", x.sizing(1), 1);
        wishes(x, 1, "wish flow 0=3 and flow 1=4 or flow 0=5 and flow 1=1;");
        is("the sum", x.sizing(-1), 6);
        is("though not the first as a row", x.sizing(0), 5);
    }

    @Promise(n = 22, says = "of several the first as a row")
    void sizingIsTheFirstRowOfSeveral() {
        SizedParts x = withSources(1, 1, 1);
        for (int i = 0; i < 3; i++) x.open(i, 1, 4);
        wishes(x, 1, "wish flow 0+flow 1+flow 2=7;");
        int[] due = {1, 2, 4};
        for (int i = 0; i < 3; i++) is("size " + i, x.sizing(i), due[i]);
    }

    @Promise(n = 22, says = "of all rows of SIZES of OPEN PARTS")
    void sizingTriesTheFirstAndTheLastRow() {
        SizedParts x = withSources(1, 1, 1, 1);
        for (int i = 0; i < 4; i++) x.open(i, 6, 9);
        wishes(x, 1, "wish flow 0+flow 1+flow 2+flow 3>35;");
        is("9 9 9 9", x.sizing(-1), 36);
        wishes(x, 1, "wish flow 0+flow 1+flow 2+flow 3<25;");
        is("6 6 6 6", x.sizing(-1), 24);
        is("sizes stay", x.partOf(0, 2), 1);
    }

    @Promise(n = 22, says = "with which all WISHES are MET")
    void sizingLooksAtAllCornersAndNoOther() {
        SizedParts x = withNineFlows();
        wishes(x, 1, "wish flow 0>39 and flow 0<149;");
        is("met", x.sizing(-1), 0);
        is("far", x.far(0, true), 0);
        is("help", x.help(), 0);
        wishes(x, 1, "wish flow 0>40;");
        is("missed in the first", x.sizing(-1), NONE);
        wishes(x, 1, "wish flow 0<148;");
        is("missed in the last", x.sizing(-1), NONE);
        for (int corner = 0; corner <= 8; corner++) {
            wishes(x, 1, "wish not flow 0=" + NINE_FLOWS[corner] + ";");
            is("missed in " + corner, x.sizing(-1), NONE);
        }
    }

    @Promise(n = 22, says = "with which all WISHES are MET")
    void sizingByTheLastTable() {
        SizedParts x = new SizedParts();
        x.sheet(0, 0, 21);
        for (int i = 0; i < 4; i++) {
            x.put(0, 10, 2 * i + 1);
            x.table(0);
        }
        x.part(BRIDGE, 10, 1, 305, 0);
        x.open(0, 1, 4);
        wishes(x, 1, "wish flow 0>20;");
        is("7, 14, 21", x.sizing(0), 3);
        x.size(0, 3);
        is("21, 28 .. 63", x.far(0, true), 6);
    }

    // ---- 23 prove

    @Promise(n = 23, says = "NONE")
    void proveWithNoRow() {
        refused("prove()", NONE, EdgesOfSizing::withNoRow, SizedParts::prove);
    }

    @Promise(n = 23, says = "ROWS become SIZING: how many.")
    void proveWithoutOpenPartsAndWithFour() {
        SizedParts x = withSources(1, 1, 1, 1);
        is("none is open", x.prove(), 0);
        for (int i = 0; i < 4; i++) x.open(i, i + 1, i + 1);
        is("four", x.prove(), 4);
        for (int i = 0; i < 4; i++) {
            is("part", x.row(i, 0), i);
            is("size", x.row(i, 1), i + 1);
        }
        for (int i = 0; i < 4; i++) x.open(i, 1, 0);
        is("none is open", x.prove(), 0);
        is("no row is left", x.row(0, 0), -9);
    }

    // ---- 24, 25 row, alterRow

    @Promise(n = 24, says = "-9: there is none such, another what.")
    void rowOfNone() {
        for (int bad : outside(0, 1)) {
            refused("row " + bad, -9, x -> x.row(bad, 0));
            refused("size of row " + bad, -9, x -> x.row(bad, 1));
        }
        for (int bad : outside(0, 3)) refused("row " + bad, -9, EdgesOfSizing::withFourOpen, x -> x.row(bad, 0));
        is("at first", new SizedParts().row(0, 0), -9);
    }

    @Promise(n = 24, says = "another what")
    void rowOfAnotherWhat() {
        for (int bad : outside(0, 1)) refused("what " + bad, -9, x -> x.row(0, bad));
    }

    @Promise(n = 25, says = "-9 likewise.")
    void alterRowOfNone() {
        for (int bad : outside(0, 1)) refused("row " + bad, -9, x -> x.alterRow(bad, 0, 3));
        for (int bad : outside(0, 3)) refused("row " + bad, -9, EdgesOfSizing::withFourOpen, x -> x.alterRow(bad, 1, 2));
        is("at first", new SizedParts().alterRow(0, 0, 3), -9);
    }

    @Promise(n = 25, says = "-9 likewise.")
    void alterRowOfAnotherWhat() {
        for (int bad : outside(0, 1)) refused("what " + bad, -9, x -> x.alterRow(0, bad, 3));
    }

    @Promise(n = 25, says = "It becomes v: what it was.")
    void alterRowToAnything() {
        SizedParts x = withFourOpen();
        int part = 3, size = 1;
        for (int v : new int[] {MIN, -9, -1, 0, 10, MAX}) {
            is("part", x.alterRow(3, 0, v), part);
            is("size", x.alterRow(3, 1, v), size);
            part = v;
            size = v;
        }
        is("part", x.row(3, 0), MAX);
        is("the row ahead", x.row(2, 0), 2);
    }

    // ---- 26 judge

    @Promise(n = 26, says = {"0 all is right", "ROWS: SIZES for OPEN PARTS that were proved."})
    void judgeOfNothingAndOfFour() {
        is("no rows, no open ones", new SizedParts().judge(), 0);
        is("four", withFourOpen().judge(), 0);
    }

    @Promise(n = 26, says = {"else the first ROW that isn't, and 1 more", "right is one whose PART is the next OPEN one by numbers"})
    void judgeOfPartsThatArentTheNext() {
        for (int i = 0; i < 4; i++) {
            for (int bad : new int[] {-1, 4, 5, 9, 10, MIN, MAX, i == 0 ? 1 : i - 1}) {
                SizedParts x = withFourOpen();
                x.alterRow(i, 0, bad);
                is("row " + i + " of part " + bad, x.judge(), i + 1);
            }
        }
    }

    @Promise(n = 26, says = {"else the first ROW that isn't, and 1 more", "with a SIZE that it may have"})
    void judgeOfSizesThatMayNotBe() {
        for (int i = 0; i < 4; i++) {
            for (int bad : new int[] {0, 5, -1, 10, MIN, MAX}) {
                SizedParts x = withFourOpen();
                x.alterRow(3, 1, 5);
                x.alterRow(i, 1, bad);
                is("row " + i + " of size " + bad, x.judge(), i + 1);
            }
        }
    }

    @Promise(n = 26, says = "right is one whose PART is the next OPEN one by numbers")
    void judgeOfOneRowTooMany() {
        SizedParts x = withFourOpen();
        x.open(3, 1, 0);
        is("the fourth", x.judge(), 4);
        SizedParts y = withFourOpen();
        y.open(1, 1, 0);
        is("the second", y.judge(), 2);
        for (int i = 0; i < 4; i++) y.open(i, 1, 0);
        is("the first", y.judge(), 1);
        for (int size : new int[] {-1, 0, 1, 9}) {
            SizedParts z = withFourOpen();
            z.open(3, 1, 0);
            z.alterRow(3, 1, size);
            is("the fourth, of size " + size, z.judge(), 4);
        }
    }

    @Promise(n = 26, says = {"11: there are too few", "if all are, as many as there are OPEN PARTS"})
    void judgeOfTooFewRows() {
        SizedParts x = withSources(1, 1, 1);
        x.open(0, 1, 2);
        is("none of one", x.judge(), 11);
        x.prove();
        x.open(2, 1, 2);
        is("one of two", x.judge(), 11);
        x.alterRow(0, 1, 3);
        is("one that isn't right, ahead of that", x.judge(), 1);
        x.alterRow(0, 1, 2);
        wishes(x, 1, "wish 1=2;");
        is("too few, ahead of wishes", x.judge(), 11);
    }

    @Promise(n = 26, says = {"20 and the number of the first WISH that is MISSED", "with these SIZES all WISHES are MET"})
    void judgeOfWishesThatAreMissed() {
        for (int wish = 0; wish < 8; wish++) {
            SizedParts x = withFourOpen();
            x.size(0, 9);
            wishes(x, 8, "wish 1=1;".repeat(wish) + "wish flow 0=4;" + "wish 1=2;".repeat(7 - wish));
            is("wish " + wish, x.judge(), 20 + wish);
            x.alterRow(0, 1, 4);
            is("the one behind", x.judge(), wish == 7 ? 0 : 21 + wish);
        }
    }

    // ---- 27 far

    @Promise(n = 27, says = "BAD: no such PART")
    void farOfNoSuchPart() {
        for (int bad : outside(0, 5)) {
            refused("part " + bad + " up", BAD, x -> x.far(bad, true));
            refused("part " + bad + " down", BAD, x -> x.far(bad, false));
        }
    }

    @Promise(n = 27, says = {"-5.", "(-5: they aren't now)"})
    void farWhenMissedNow() {
        refused("up", -5, EdgesOfSizing::withNoRow, x -> x.far(0, true));
        refused("down", -5, EdgesOfSizing::withNoRow, x -> x.far(0, false));
        SizedParts x = withNineFlows();
        wishes(x, 1, "wish flow 0<148;");
        is("missed in the last corner", x.far(0, false), -5);
        wishes(x, 1, "wish flow 0>40;");
        is("missed in the first corner", x.far(0, true), -5);
    }

    @Promise(n = 27, says = {"of several the first named", "BAD: no such PART; -5"})
    void farRefusesBadAheadOfMissed() {
        refused("part 2", BAD, EdgesOfSizing::withNoRow, x -> x.far(2, true));
    }

    @Promise(n = 27, says = "by how much its SIZE alone can be more (9 at most), less (1 at least)")
    void farFrom1To9() {
        for (int size = 1; size <= 9; size++) {
            SizedParts x = withSources(size);
            is("up from " + size, x.far(0, true), 9 - size);
            is("down from " + size, x.far(0, false), size - 1);
            is("its size stays", x.partOf(0, 2), size);
        }
    }

    @Promise(n = 27, says = "each one on the way as well, and all WISHES are MET")
    void farStopsOnTheWay() {
        SizedParts x = withSources(5);
        wishes(x, 1, "wish not flow 0=7 and not flow 0=3;");
        is("up to 6, though 8 would do", x.far(0, true), 1);
        is("down to 4, though 2 would do", x.far(0, false), 1);
        wishes(x, 1, "wish flow 0=5;");
        is("not at all", x.far(0, true), 0);
        is("not at all", x.far(0, false), 0);
    }

    // ---- 28 falls

    @Promise(n = 28, says = "BAD: no such PART, break.")
    void fallsOfNoSuchPart() {
        for (int bad : outside(0, 5)) refused("part " + bad, BAD, x -> x.falls(bad, 1));
    }

    @Promise(n = 28, says = {"BAD: no such PART, break.", "FALLS of a PART and a break (1, 2)"})
    void fallsOfNoSuchBreak() {
        for (int bad : outside(1, 2)) refused("how " + bad, BAD, x -> x.falls(0, bad));
    }

    @Promise(n = 28, says = "WISHES that are MET with it whole, and MISSED with it broken so (all else as it is), as bits")
    void fallsOfOpenAndShut() {
        SizedParts x = withSources(4, 5);
        wishes(x, 4, "wish flow 0=4;wish flow 0=0;wish flow 1=5;wish flow 0<9;");
        is("open", x.falls(0, 1), 0b0001);
        is("shut, 400", x.falls(0, 2), 0b1001);
        x.breaks(0, 1);
        is("as it were whole", x.falls(0, 1), 0b0001);
        is("as it were whole", x.falls(0, 2), 0b1001);
        is("it stays", x.partOf(0, 3), 1);
        x.breaks(0, 0);
        x.breaks(1, 1);
        is("all else as it is", x.falls(0, 2), 0b1001);
        is("no wish", withSources(4).falls(0, 2), 0);
        wishes(x, 8, "wish 1=1;".repeat(7) + "wish flow 0=4;");
        is("the eighth", x.falls(0, 1), 128);
    }

    // ---- 29 change

    @Promise(n = 29, says = "BAD")
    void changeOfNoSuchPart() {
        for (int bad : outside(0, 5)) refused("part " + bad, BAD, x -> x.change(bad, 0));
    }

    @Promise(n = 29, says = {"BAD", "it is open (what 0), its NODES change places (1), its SIZE is 10 less what it is (2)"})
    void changeOfNoSuchWhat() {
        for (int bad : outside(0, 2)) refused("what " + bad, BAD, x -> x.change(0, bad));
    }

    @Promise(n = 29, says = {"FULL", "CHANGES, 6 at most, numbered as they come"})
    void seventhChange() {
        SizedParts x = withSources(4);
        for (int i = 0; i < 6; i++) is("change " + i, x.change(0, 2), i);
        is("changes", x.many(4), 6);
        refused("the seventh", FULL, EdgesOfSizing::withSixChanges, y -> y.change(0, 0));
    }

    @Promise(n = 29, says = {"of several the first named", "BAD; FULL"})
    void changeRefusesBadAheadOfFull() {
        refused("part 6", BAD, EdgesOfSizing::withSixChanges, x -> x.change(6, 0));
        refused("what 3", BAD, EdgesOfSizing::withSixChanges, x -> x.change(0, 3));
    }

    private static SizedParts withSixChanges() {
        SizedParts x = withSources(4, 4, 4, 4, 4, 4);
        for (int i = 0; i < 6; i++) x.change(i, 2);
        return x;
    }

    // ---- 30 help

    @Promise(n = 30, says = "NONE: no set helps.")
    void helpOfNoSet() {
        SizedParts x = withSources(4);
        wishes(x, 1, "wish flow 0=5;");
        is("no change", x.help(), NONE);
        refused("none of six", NONE, EdgesOfSizing::helpless, SizedParts::help);
    }

    private static SizedParts helpless() {
        SizedParts x = withSixChanges();
        read(x, "wish flow 0=5;");
        return x;
    }

    @Promise(n = 30, says = "HELP, as bits.")
    void helpOfNothingAndOfAll() {
        is("no wish, no change", new SizedParts().help(), 0);
        SizedParts x = withSixChanges();
        is("no wish", x.help(), 0);
        wishes(x, 1, "wish flow 0+flow 1+flow 2+flow 3+flow 4+flow 5=36;");
        is("all six", x.help(), 63);
        wishes(x, 1, "wish flow 5=6;");
        is("the last", x.help(), 32);
    }

    @Promise(n = 30, says = "all WISHES are MET, the one of the fewest; of several the least as bits")
    void helpOfTheFewestAndTheLeast() {
        SizedParts x = withSixChanges();
        wishes(x, 1, "wish flow 0=6 and flow 1=6 or flow 4=6 or flow 3=6;");
        is("one in place of two, the lower one", x.help(), 8);
        wishes(x, 1, "wish flow 0=6 and flow 5=6 or flow 3=6 and flow 4=6;");
        is("the least as bits", x.help(), 0b011000);
    }

    @Promise(n = 30, says = "its SIZE is 10 less what it is (2)")
    void helpOfSizes1And9() {
        for (int size = 1; size <= 9; size++) {
            SizedParts x = withSources(size);
            x.change(0, 2);
            wishes(x, 1, "wish flow 0=" + (10 - size) + ";");
            is("10 less " + size, x.help(), size == 5 ? 0 : 1);
        }
    }

    @Promise(n = 30, says = {"it is open (what 0)", "its NODES change places (1)"})
    void helpByOpeningAndByTurning() {
        SizedParts x = new SizedParts();
        x.part(SOURCE, 12, 4, 0, 0);
        x.change(0, 0);
        x.change(0, 1);
        wishes(x, 1, "wish flow 0=0 and node 2=0;");
        is("open", x.help(), 1);
        wishes(x, 1, "wish flow 0=4 and node 2=0;");
        is("turned", x.help(), 2);
        wishes(x, 1, "wish flow 0=4 and node 2=20;");
        is("as it is", x.help(), 0);
        x.change(0, 1);
        x.start(state(20, 0, 0));
        wishes(x, 1, "wish flow 0=4 and node 2=0;");
        is("turned once, not twice", x.help(), 2);
        is("it stays", x.partOf(0, 1), 12);
        is("it stays whole", x.partOf(0, 3), 0);
    }

    @Promise(n = 30, says = "it is open (what 0)")
    void helpByOpeningAShutOne() {
        SizedParts x = new SizedParts();
        x.part(SOURCE, 10, 4, 0, 0);
        x.breaks(0, 2);
        x.change(0, 0);
        wishes(x, 1, "wish flow 0=400;");
        is("shut", x.help(), 0);
        wishes(x, 1, "wish flow 0=0;");
        is("open", x.help(), 1);
        is("it stays shut", x.partOf(0, 3), 2);
    }

    @Promise(n = 30, says = "(done one behind the other, by numbers, at once)")
    void helpOneBehindTheOther() {
        SizedParts x = withSources(4, 4);
        x.change(0, 2);
        x.change(0, 2);
        x.change(1, 0);
        wishes(x, 1, "wish flow 0=6 and flow 1=0;");
        is("once 10 less, and open", x.help(), 0b101);
        wishes(x, 1, "wish flow 0=4 and flow 1=0;");
        is("open alone", x.help(), 0b100);
        is("nothing is done", x.partOf(0, 2), 4);
        is("nothing is done", x.many(10), 0);
    }

    // ---- 31 measured

    @Promise(n = 31, says = "-9: no such NODE, level")
    void measuredOfNoSuchNode() {
        for (int bad : new int[] {1, 0, 5, -1, MIN, MAX}) refused("node " + bad, -9, x -> x.measured(bad, 3));
    }

    @Promise(n = 31, says = {"-9: no such NODE, level", "(each 0 to 20, or -1: not)"})
    void measuredOfNoSuchLevel() {
        for (int node = 2; node <= 4; node++) {
            int n = node;
            for (int bad : outside(-1, 20)) refused("level " + bad, -9, x -> x.measured(n, bad));
        }
    }

    @Promise(n = 31, says = {"MEASURED of an INNER NODE (2 to 4): what it was (-1 at first", "(each 0 to 20, or -1: not)"})
    void measuredAtItsEnds() {
        SizedParts x = new SizedParts();
        for (int node = 2; node <= 4; node++) {
            is("-1 at first", x.measured(node, 0), -1);
            is("0", x.measured(node, 20), 0);
            is("20", x.measured(node, -1), 20);
            is("not any more", x.measured(node, -1), -1);
        }
    }

    // ---- 32 which

    @Promise(n = 32, says = "(0: nobody must be otherwise)")
    void whichOfNobody() {
        is("nothing is measured, no part", new SizedParts().which(), 0);
        SizedParts x = new SizedParts();
        x.part(SOURCE, 12, 4, 0, 0);
        is("nothing is measured", x.which(), 0);
        x.measured(2, 20);
        is("as it is", x.which(), 0);
        x.measured(3, 0);
        x.measured(4, 0);
        is("all as they are", x.which(), 0);
    }

    @Promise(n = 32, says = {"NONE: no set of 2 or fewer.", "of all sets of PARTS (2 at most)"})
    void whichOfNoSet() {
        refused("three of three", NONE, EdgesOfSizing::withThreeAsleep, SizedParts::which);
        SizedParts x = withThreeAsleep();
        for (int node = 2; node <= 4; node++) {
            x.measured(node, -1);
            is("two, without node " + node, x.which(), 7 & ~(1 << node - 2));
            x.measured(node, 20);
        }
        SizedParts y = new SizedParts();
        y.measured(2, 1);
        is("no part", y.which(), NONE);
    }

    /** SOURCES of SIZE 1, which move nothing: of 4 or more they would fill their NODES, and all were MEASURED at 20. */
    private static SizedParts withThreeAsleep() {
        SizedParts x = new SizedParts();
        for (int node = 2; node <= 4; node++) {
            x.part(SOURCE, 10 + node, 1, 0, 0);
            x.measured(node, 20);
        }
        return x;
    }

    @Promise(n = 32, says = "such that with some SIZES 1 to 9 of these")
    void whichBySizes1And9() {
        SizedParts x = new SizedParts();
        x.part(SOURCE, 12, 1, 0, 0);
        x.part(STORE, 23, 5, 0, 0); // only 9 by 9 moves
        x.measured(2, 20);
        is("9", x.which(), 1);
        SizedParts y = new SizedParts();
        y.part(SOURCE, 20, 5, 0, 0);
        y.part(SOURCE, 12, 5, 0, 0); // only 5 less 1 moves, or 9 less 5
        y.measured(2, 20);
        is("1", y.which(), 1);
        SizedParts z = new SizedParts();
        z.part(SOURCE, 12, 5, 0, 0);
        z.part(SOURCE, 20, 9, 0, 0);
        z.part(STORE, 23, 4, 0, 0); // only 9 less 1 by 8 moves
        z.measured(2, 20);
        is("9 and 1", z.which(), 3);
        z.size(2, 5);
        is("9 less 1 by 9 moves nothing", z.which(), NONE);
        SizedParts w = new SizedParts();
        w.part(SOURCE, 20, 9, 0, 0);
        w.part(SOURCE, 12, 5, 0, 0);
        w.part(STORE, 23, 4, 0, 0);
        w.measured(2, 20);
        is("1 and 9", w.which(), 3);
    }

    @Promise(n = 32, says = "THE END has all LEVELS that were MEASURED, the one of the fewest; of several the least as bits")
    void whichOfTheFewestAndTheLeast() {
        SizedParts x = new SizedParts();
        x.part(SOURCE, 13, 1, 0, 0);
        x.part(SOURCE, 12, 1, 0, 0);
        x.part(SOURCE, 12, 1, 0, 0);
        x.measured(2, 20);
        is("one alone, the lower one", x.which(), 2);
        x.measured(3, 20);
        is("two, the lower ones", x.which(), 3);
        x.size(0, 4);
        is("one alone again", x.which(), 2);
        x.measured(2, 0);
        is("nobody", x.which(), 0);
        x.measured(3, 0);
        is("0 is measured, too", x.which(), 1);
    }

    @Promise(n = 32, says = "MEASURED: LEVELS of INNER NODES in THE END in CORNER 4")
    void whichInCorner4() {
        SizedParts x = withLine();
        x.part(BRIDGE, 12, 4, 50, 0); // ERR 5, WARM -5
        is("in corner 4", x.goes(4, 0), state(10, 0, 0)); // 40 by 4
        is("in corner 0", x.goes(0, 0), state(7, 0, 0)); // 20 times 15 by 10, by 4; and then 3 less 5
        x.measured(2, 10);
        is("as in corner 4", x.which(), 0);
        x.measured(2, 7);
        is("in corner 4 with SIZE 1: 0, 2, 4, 5, 6, 7", x.which(), 1);
    }
}
