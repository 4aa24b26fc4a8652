/** Promises 10 to 15: ticks, rests. */
final class EdgesOfTicks extends Edges {
    private static final int NO_FLOW = -999999;

    // ---- 10 flow

    @Promise(n = 10, says = "-999999: there is no such one.")
    void flowOfNoSuchPart() {
        for (int bad : outside(0, 5)) refused("part " + bad, NO_FLOW, x -> x.flow(bad, 0, 4));
        SizedParts x = withSources(7, 7);
        x.drop();
        is("dropped", x.flow(1, 0, 4), NO_FLOW);
        is("the one ahead", x.flow(0, 0, 4), 7);
    }

    @Promise(n = 10, says = "-999999: there is no such one.")
    void flowInNoSuchState() {
        for (int bad : outside(0, 9260)) refused("state " + bad, NO_FLOW, x -> x.flow(0, bad, 4));
    }

    @Promise(n = 10, says = "-999999: there is no such one.")
    void flowInNoSuchCorner() {
        for (int bad : outside(0, 8)) refused("corner " + bad, NO_FLOW, x -> x.flow(0, 0, bad));
    }

    @Promise(n = 10, says = "A CORNER: MAKING (0 to 2) and HEAT (0 to 2), told as 3 times MAKING and HEAT (0 to 8).")
    void flowInEachCorner() {
        SizedParts x = withNineFlows();
        for (int corner = 0; corner <= 8; corner++) is("corner " + corner, x.flow(0, 0, corner), NINE_FLOWS[corner]);
    }

    @Promise(n = 10, says = "that of 2 times 441, and that of 3 times 21, and that of 4")
    void flowInTheFirstAndLastState() {
        SizedParts x = withLine();
        for (int node = 2; node <= 4; node++) {
            x.part(BRIDGE, 10 * node, 1, 5, 0);
            is("all at 0", x.flow(node - 2, 0, 4), 0);
            is("all at 20", x.flow(node - 2, 9260, 4), 20);
        }
    }

    @Promise(n = 10, says = "its number of the TABLE for D (without its sign), and ERR times (MAKING less 1), 0 at least")
    void numberOfTheTableIs0AtLeast() {
        SizedParts x = withLine();
        x.part(BRIDGE, 23, 9, 55, 0); // ERR 5
        is("4 less 5", x.flow(0, state(4, 0, 0), 1), 0);
        is("4 less 5, back", x.flow(0, state(0, 4, 0), 1), 0);
        is("5 less 5", x.flow(0, state(5, 0, 0), 1), 0);
        is("6 less 5", x.flow(0, state(6, 0, 0), 1), 9);
        is("6 less 5, back", x.flow(0, state(0, 6, 0), 1), -9);
    }

    @Promise(n = 10, says = "BRIDGE: its number of the TABLE for D (without its sign)")
    void numberOfEachTable() {
        SizedParts x = new SizedParts();
        x.sheet(0, 0, 21);
        for (int table = 0; table < 4; table++) {
            for (int d : new int[] {1, 20}) x.put(0, d, 7 * table + d % 10);
            x.table(0);
            x.part(BRIDGE, 23, 1, 100 * table + 5, 0);
            x.part(VALVE, 32, 1, 100 * table + 5, 1);
        }
        for (int table = 0; table < 4; table++) {
            is("1 of table " + table, x.flow(2 * table, state(9, 8, 0), 4), 7 * table + 1);
            is("-1 of table " + table, x.flow(2 * table + 1, state(9, 8, 0), 4), -7 * table - 1);
            is("20 of table " + table, x.flow(2 * table + 1, state(0, 20, 0), 4), 7 * table);
            is("-20 of table " + table, x.flow(2 * table, state(0, 20, 0), 4), -7 * table);
        }
    }

    @Promise(n = 10, says = "and ERR times (MAKING less 1), 0 at least")
    void numberOfTheTableMayBeAbove30() {
        SizedParts x = new SizedParts();
        x.sheet(0, 0, 21);
        x.put(0, 1, 30);
        x.table(0);
        x.part(BRIDGE, 23, 9, 55, 0);
        is("30 and 5", x.flow(0, state(1, 0, 0), 7), 315);
    }

    @Promise(n = 10, says = "that times 10 and WARM times (HEAT less 1), by 10, cut")
    void heatIsCut() {
        SizedParts x = withLine();
        x.part(BRIDGE, 23, 1, 7, 0); // WARM 2
        is("2.4", x.flow(0, state(3, 0, 0), 3), 2);
        is("3.6", x.flow(0, state(3, 0, 0), 5), 3);
        is("-2.4", x.flow(0, state(0, 3, 0), 3), -2);
        is("-3.6", x.flow(0, state(0, 3, 0), 5), -3);
        is("0.8", x.flow(0, state(1, 0, 0), 3), 0);
        is("-0.8", x.flow(0, state(0, 1, 0), 3), 0);
    }

    @Promise(n = 10, says = {"WARM (-5 to 4)", "that times 10 and WARM times (HEAT less 1), by 10, cut"})
    void warmAtItsEnds() {
        SizedParts x = withLine();
        x.part(BRIDGE, 23, 1, 0, 0);
        x.part(BRIDGE, 23, 1, 9, 0);
        int[] least = {15, 10, 5}, most = {6, 10, 14};
        for (int heat = 0; heat <= 2; heat++) {
            is("-5 with HEAT " + heat, x.flow(0, state(10, 0, 0), 3 + heat), least[heat]);
            is("4 with HEAT " + heat, x.flow(1, state(10, 0, 0), 3 + heat), most[heat]);
        }
    }

    @Promise(n = 10, says = "with the sign of D (0, if D is 0)")
    void noFlowWithoutFall() {
        SizedParts x = new SizedParts();
        x.sheet(0, 0, 21);
        x.put(0, 0, 7);
        x.table(0);
        x.part(BRIDGE, 23, 1, 55, 0);
        x.part(VALVE, 23, 1, 55, 4);
        x.part(PAIR, 23, 1, 55, 14);
        for (int part = 0; part < 3; part++) {
            for (int corner = 0; corner <= 8; corner++) is("part " + part, x.flow(part, state(6, 6, 20), corner), 0);
        }
    }

    @Promise(n = 10, says = "VALVE: as a BRIDGE, times LEVEL of the GATE (10 at most) by 10")
    void gateIs10AtMost() {
        SizedParts x = withLine();
        x.part(VALVE, 23, 1, 5, 4);
        x.part(PAIR, 32, 1, 5, 4);
        for (int level = 0; level <= 20; level++) {
            is("valve, gate " + level, x.flow(0, state(10, 0, level), 4), Math.min(level, 10));
            is("pair, gate " + level, x.flow(1, state(10, 0, level), 4), -Math.min(level, 10));
        }
    }

    @Promise(n = 10, says = "by 10, cut towards 0")
    void gatedFlowIsCutTowards0() {
        SizedParts x = withLine();
        x.part(VALVE, 23, 1, 5, 4);
        is("1.5", x.flow(0, state(5, 0, 3), 4), 1);
        is("-1.5", x.flow(0, state(0, 5, 3), 4), -1);
        is("0.9", x.flow(0, state(1, 0, 9), 4), 0);
        is("-0.9", x.flow(0, state(0, 1, 9), 4), 0);
    }

    @Promise(n = 10, says = "VALVE: as a BRIDGE, times LEVEL of the GATE")
    void gatedFlowIsCutTwice() {
        SizedParts x = withLine();
        x.part(VALVE, 23, 1, 9, 4); // WARM 4
        // 9 times 14 by 10 is 12 (12.6), times 8 by 10 is 9 (9.6); cut but once it were 10 (10.08)
        is("9", x.flow(0, state(9, 0, 8), 5), 9);
        is("9, back", x.flow(0, state(0, 9, 8), 5), -9);
    }

    @Promise(n = 10, says = "a GATE (a NODE, any)")
    void gateAtGroundAndFeed() {
        SizedParts x = withLine();
        x.part(VALVE, 23, 1, 5, 0);
        x.part(VALVE, 23, 1, 5, 1);
        x.part(VALVE, 23, 1, 5, 2);
        x.feedAt(3);
        is("ground", x.flow(0, state(20, 10, 0), 4), 0);
        is("feed", x.flow(1, state(20, 10, 0), 4), 3);
        is("its own first node", x.flow(2, state(5, 0, 0), 4), 2);
    }

    @Promise(n = 10, says = "Answers below 0, where not told otherwise, are refusals")
    void flowAsLowAsRefusals() {
        SizedParts x = withLine();
        x.part(BRIDGE, 23, 1, 5, 0);
        for (int fall = 1; fall <= 20; fall++) is("back by " + fall, x.flow(0, state(0, fall, 0), 4), -fall);
    }

    @Promise(n = 10, says = "PAIR: as a VALVE with the SIZE of its TWIN in place of its own (of a TWIN that is a PAIR: its own SIZE as it is told).")
    void pairHasTheSizeOfItsTwin() {
        SizedParts x = withLine();
        x.part(VALVE, 23, 3, 5, 1);
        x.part(PAIR, 23, 5, 5, 1);
        x.part(PAIR, 23, 7, 5, 11);
        x.part(PAIR, 23, 9, 5, 21);
        int[] due = {3, 3, 5, 7};
        for (int part = 0; part < 4; part++) is("part " + part, x.flow(part, state(1, 0, 0), 4), due[part]);
        x.breaks(2, 2);
        is("of a broken twin", x.flow(3, state(1, 0, 0), 4), 7);
        x.breaks(2, 0);
        x.size(0, 9);
        is("as it is now", x.flow(1, state(1, 0, 0), 4), 9);
        is("not of the twin's twin", x.flow(2, state(1, 0, 0), 4), 5);
    }

    @Promise(n = 10, says = "SOURCE: SIZE. STORE: 0.")
    void sourceAndStoreHangOnNothing() {
        SizedParts x = new SizedParts();
        x.part(SOURCE, 23, 9, 0, 0);
        x.part(STORE, 23, 9, 0, 0);
        for (int state : new int[] {0, state(20, 0, 0), state(0, 20, 0), 9260}) {
            for (int corner : new int[] {0, 8}) {
                is("source", x.flow(0, state, corner), 9);
                is("store", x.flow(1, state, corner), 0);
            }
        }
    }

    @Promise(n = 10, says = "Open: 0. Shut: 40 times D (of a STORE: 0).")
    void brokenPartsOfAllKinds() {
        SizedParts x = withLine();
        x.part(BRIDGE, 23, 1, 5, 0);
        x.part(VALVE, 23, 1, 5, 0);
        x.part(PAIR, 23, 1, 5, 10);
        x.part(SOURCE, 23, 1, 0, 0);
        x.part(STORE, 23, 1, 0, 0);
        for (int part = 0; part < 5; part++) {
            x.breaks(part, 1);
            is("open", x.flow(part, state(20, 0, 0), 4), 0);
            x.breaks(part, 2);
            int times = part == 4 ? 0 : 40;
            is("shut at 20", x.flow(part, state(20, 0, 0), 0), 20 * times);
            is("shut at -20", x.flow(part, state(0, 20, 0), 8), -20 * times);
            is("shut at 0", x.flow(part, state(7, 7, 0), 4), 0);
        }
    }

    // ---- 11 tick

    @Promise(n = 11, says = "BAD")
    void tickOfNoSuchState() {
        for (int bad : outside(0, 9260)) refused("state " + bad, BAD, x -> x.tick(bad, 4));
    }

    @Promise(n = 11, says = "BAD")
    void tickInNoSuchCorner() {
        for (int bad : outside(0, 8)) refused("corner " + bad, BAD, x -> x.tick(0, bad));
    }

    @Promise(n = 11, says = "The STATE a TICK behind a STATE in a CORNER.")
    void tickInTheFirstAndLastCorner() {
        SizedParts x = withLine();
        x.part(BRIDGE, 12, 4, 59, 0); // ERR 5, WARM 4; 4 times 5 .. 15
        is("3 in corner 0", x.tick(0, 0), state(3, 0, 0)); // 20 times 6 by 10: 12 by 4
        is("20 in corner 8", x.tick(0, 8), state(20, 0, 0)); // 60 times 14 by 10: 84 by 4
    }

    @Promise(n = 11, says = "0 at least, 20 at most")
    void levelsStay0To20() {
        SizedParts x = new SizedParts();
        x.part(SOURCE, 23, 9, 0, 0); // 2 less, 2 more
        is("2 to 0, 18 to 20", x.tick(state(2, 18, 0), 4), state(0, 20, 0));
        is("1 to 0, 19 to 20", x.tick(state(1, 19, 0), 4), state(0, 20, 0));
        is("0 and 20 stay", x.tick(state(0, 20, 0), 4), state(0, 20, 0));
        is("3 to 1, 17 to 19", x.tick(state(3, 17, 0), 4), state(1, 19, 0));
        x.breaks(0, 2);
        is("far beyond", x.tick(state(20, 0, 0), 4), state(0, 20, 0)); // 200 less, 200 more
    }

    @Promise(n = 11, says = "its LEVEL is NET by its WEIGHT (cut towards 0) more")
    void netByWeightIsCutTowards0() {
        SizedParts x = new SizedParts();
        x.part(SOURCE, 23, 3, 0, 0);
        is("3 by 4", x.tick(state(5, 5, 5), 4), state(5, 5, 5));
        x.size(0, 4);
        is("4 by 4", x.tick(state(5, 5, 5), 4), state(4, 6, 5));
        x.size(0, 7);
        is("7 by 4", x.tick(state(5, 5, 5), 4), state(4, 6, 5));
    }

    @Promise(n = 11, says = "WEIGHT: 4, and SIZES of STORES that aren't BROKEN, of which it is the first NODE or the second one.")
    void weightIs4AndStores() {
        SizedParts x = new SizedParts();
        x.part(SOURCE, 42, 9, 0, 0);
        is("weight 4", x.tick(state(5, 5, 5), 4), state(7, 5, 3));
        x.part(STORE, 23, 5, 0, 0);
        is("weight 9 of 2, 4 of 4", x.tick(state(5, 5, 5), 4), state(6, 5, 3));
        x.part(STORE, 14, 6, 0, 0);
        is("weight 9 of 2, 10 of 4", x.tick(state(5, 5, 5), 4), state(6, 5, 5));
        x.part(STORE, 20, 1, 0, 0);
        is("weight 10 of 2", x.tick(state(5, 5, 5), 4), state(5, 5, 5));
        x.breaks(1, 1);
        is("weight 5 of 2", x.tick(state(5, 5, 5), 4), state(6, 5, 5));
        x.breaks(2, 2);
        x.breaks(3, 2);
        is("weight 4", x.tick(state(5, 5, 5), 4), state(7, 5, 3));
        x.part(STORE, 34, 5, 0, 0);
        is("weight 9 of 4, its second node", x.tick(state(5, 5, 5), 4), state(7, 5, 4));
        x.part(STORE, 42, 1, 0, 0);
        is("weight 10 of 4, 5 of 2", x.tick(state(5, 5, 5), 4), state(6, 5, 5));
    }

    @Promise(n = 11, says = "all at once")
    void nodesMoveAllAtOnce() {
        SizedParts x = withLine();
        x.part(BRIDGE, 23, 4, 5, 0);
        x.part(BRIDGE, 34, 4, 5, 0);
        is("2 to 3, nothing yet to 4", x.tick(state(4, 0, 0), 4), state(0, 4, 0));
        is("3 to both", x.tick(state(0, 9, 0), 4), state(9, 0, 9));
    }

    @Promise(n = 11, says = "NODES are 0 (THE GROUND, at LEVEL 0), 1 (THE FEED")
    void groundAndFeedDontMove() {
        SizedParts x = withLine();
        x.part(SOURCE, 10, 9, 0, 0);
        x.part(BRIDGE, 12, 4, 5, 0);
        x.part(BRIDGE, 30, 4, 5, 0);
        for (int i = 0; i < 3; i++) is("tick", x.tick(state(0, 5, 0), 4), state(10, 0, 0));
        is("the feed", x.many(8), 10);
    }

    // ---- 12 goes

    @Promise(n = 12, says = "BAD")
    void goesInNoSuchCorner() {
        for (int bad : outside(0, 8)) refused("corner " + bad, BAD, x -> x.goes(bad, 0));
    }

    @Promise(n = 12, says = "BAD")
    void goesOfAnotherWhat() {
        for (int bad : outside(0, 2)) refused("what " + bad, BAD, x -> x.goes(4, bad));
    }

    @Promise(n = 12, says = {"what = 0 THE END, 1 PACE, 2 RING", "(1: it is at REST)"})
    void goesNowhereAtRest() {
        SizedParts x = new SizedParts();
        for (int start : new int[] {0, 4567, 9260}) {
            x.start(start);
            is("end", x.goes(8, 0), start);
            is("pace", x.goes(8, 1), 0);
            is("ring", x.goes(8, 2), 1);
        }
    }

    @Promise(n = 12, says = "PACE: how many TICKS went by till it came for the first time")
    void paceCountsTicks() {
        SizedParts x = new SizedParts();
        x.part(SOURCE, 12, 4, 0, 0); // 1 more each tick
        is("end", x.goes(0, 0), state(20, 0, 0));
        is("pace", x.goes(0, 1), 20);
        is("ring", x.goes(0, 2), 1);
        x.start(state(19, 0, 0));
        is("pace from 19 on", x.goes(0, 1), 1);
        x.start(state(20, 0, 0));
        is("pace from 20 on", x.goes(0, 1), 0);
    }

    @Promise(n = 12, says = "RING: how many from then on till it came again")
    void ringCountsTicks() {
        SizedParts x = new SizedParts();
        x.part(SOURCE, 12, 4, 0, 0);
        x.breaks(0, 2); // 0, 20, 0 ..
        is("end", x.goes(4, 0), 0);
        is("pace", x.goes(4, 1), 0);
        is("ring", x.goes(4, 2), 2);
        x.start(state(4, 0, 0)); // 4, 20, 0, 20 ..
        is("end", x.goes(4, 0), state(20, 0, 0));
        is("pace", x.goes(4, 1), 1);
        is("ring", x.goes(4, 2), 2);
    }

    @Promise(n = 12, says = {"RING: how many from then on till it came again", "From a STATE on TICKS come to one that was already: THE END is that"})
    void endIsTheFirstThatWasAlready() {
        SizedParts x = new SizedParts();
        x.sheet(0, 0, 21);
        for (int i = 0; i <= 20; i++) x.put(0, i, 20 - i);
        x.table(0);
        x.part(BRIDGE, 21, 3, 5, 0);
        is("0, 7, 19, 11, 0: end", x.goes(4, 0), 0);
        is("pace", x.goes(4, 1), 0);
        is("ring", x.goes(4, 2), 4);
        x.start(state(5, 0, 0));
        is("5, 16, 6, 18, 9, 20, 13, 1, 9: end", x.goes(4, 0), state(9, 0, 0));
        is("pace", x.goes(4, 1), 4);
        is("ring", x.goes(4, 2), 4);
    }

    // ---- 13 rests

    @Promise(n = 13, says = "BAD")
    void restsInNoSuchCorner() {
        for (int bad : outside(0, 8)) refused("corner " + bad, BAD, x -> x.rests(bad));
    }

    @Promise(n = 13, says = "How many STATES are at REST in a CORNER.")
    void allRestOrNone() {
        SizedParts x = new SizedParts();
        is("all", x.rests(0), 9261);
        is("all", x.rests(8), 9261);
        x.part(SOURCE, 12, 4, 0, 0);
        is("full ones", x.rests(0), 441);
        x.part(SOURCE, 12, 4, 0, 0);
        x.breaks(1, 2); // at 20 it goes down by 100 less 1, at 0 up
        is("none", x.rests(0), 0);
    }

    @Promise(n = 13, says = "A STATE is at REST in a CORNER, if a TICK leaves it.")
    void restsHangOnTheCorner() {
        SizedParts x = withLine();
        x.part(BRIDGE, 12, 1, 55, 0); // ERR 5
        // a fall of 8 at most lets less than 4 through with MAKING 0, of 3 with 1; with 2 it is 6 at least
        is("2 to 18", x.rests(1), 17 * 441);
        is("7 to 13", x.rests(4), 7 * 441);
        is("10", x.rests(7), 441);
    }

    @Promise(n = 13, says = "A STATE is at REST in a CORNER, if a TICK leaves it.")
    void restsBehindGates() {
        // gated at g (10 at most), node 2 stays d off the feed's 10 if d times g is below 10: for a gate apart from it
        // in 21, 19, 9, 7, 5, 3, 3, 3, 3, 3 cases for g 0 to 9, and in 1 for 10 to 20; gated by itself at 0, 1, 9, 10
        int[] rests = {9261, 441, 4 * 441, 87 * 21, 87 * 21};
        int[] last = {9260, state(10, 20, 20), state(10, 20, 20), state(20, 0, 20), state(20, 20, 0)};
        for (int gate = 0; gate <= 4; gate++) {
            SizedParts x = withLine();
            x.part(VALVE, 12, 4, 5, gate);
            is("gate " + gate, x.rests(4), rests[gate]);
            is("the last, gate " + gate, x.restAt(4, rests[gate] - 1), last[gate]);
            is("none behind it, gate " + gate, x.restAt(4, rests[gate]), NONE);
        }
    }

    @Promise(n = 13, says = "A STATE is at REST in a CORNER, if a TICK leaves it.")
    void restsOfAllNodesAtOnce() {
        for (int ends : new int[] {24, 42}) {
            SizedParts x = withLine();
            x.part(BRIDGE, ends, 4, 5, 0);
            x.part(STORE, 14, 9, 0, 0); // a fall of 1 moves node 2, and only one of 4 node 4
            is("2 and 4 alike", x.rests(4), 441);
        }
        SizedParts y = new SizedParts();
        y.part(SOURCE, 12, 4, 0, 0);
        y.part(SOURCE, 23, 4, 0, 0);
        is("as much goes from 2 as comes to it, 3 is full", y.rests(4), 441);
        is("the first", y.restAt(4, 0), state(0, 20, 0));
        y.breaks(0, 1);
        is("2 is empty, 3 is full", y.rests(4), 21);
    }

    // ---- 14 restAt

    @Promise(n = 14, says = "BAD: no such CORNER")
    void restAtInNoSuchCorner() {
        for (int bad : outside(0, 8)) refused("corner " + bad, BAD, x -> x.restAt(bad, 0));
    }

    @Promise(n = 14, says = "NONE: there is none such.")
    void restAtNone() {
        int rests = rich().rests(4);
        is("rests of rich()", rests > 0 ? 1 : 0, 1);
        for (int bad : outside(0, rests - 1)) refused("i " + bad, NONE, x -> x.restAt(4, bad));
        SizedParts x = new SizedParts();
        for (int bad : outside(0, 9260)) is("i " + bad, x.restAt(4, bad), NONE);
        x.part(SOURCE, 12, 4, 0, 0);
        x.part(SOURCE, 12, 4, 0, 0);
        x.breaks(1, 2);
        is("nothing rests", x.restAt(4, 0), NONE);
    }

    @Promise(n = 14, says = "The i-th of these, by numbers.")
    void restAtFirstAndLast() {
        SizedParts x = new SizedParts();
        is("first of all", x.restAt(4, 0), 0);
        is("last of all", x.restAt(4, 9260), 9260);
        x.part(SOURCE, 42, 4, 0, 0); // 2 full or 4 empty: both
        is("first", x.restAt(4, 0), state(20, 0, 0));
        is("second", x.restAt(4, 1), state(20, 1, 0));
        is("last", x.restAt(4, 20), state(20, 20, 0));
        is("none", x.restAt(4, 21), NONE);
    }

    @Promise(n = 14, says = {"of several the first named", "BAD: no such CORNER; NONE"})
    void restAtRefusesBadAheadOfNone() {
        refused("corner 9, -1", BAD, x -> x.restAt(9, -1));
        refused("corner -1, MAX", BAD, x -> x.restAt(-1, MAX));
    }

    // ---- 15 gain

    @Promise(n = 15, says = "-99: no such NODE, CORNER")
    void gainOfNoSuchNode() {
        for (int bad : outside(0, 4)) refused("node " + bad, -99, x -> x.gain(bad, 4));
    }

    @Promise(n = 15, says = "-99: no such NODE, CORNER")
    void gainInNoSuchCorner() {
        for (int bad : outside(0, 8)) refused("corner " + bad, -99, x -> x.gain(2, bad));
    }

    @Promise(n = 15, says = "-98: THE FEED is at 20.")
    void gainWithTheFeedAt20() {
        for (int node = 0; node <= 4; node++) {
            int n = node;
            refused("node " + n, -98, EdgesOfTicks::fedFully, x -> x.gain(n, 0));
        }
    }

    @Promise(n = 15, says = {"of several the first named", "-99: no such NODE, CORNER; -98"})
    void gainRefusesNoNodeAheadOfTheFeed() {
        refused("node 5", -99, EdgesOfTicks::fedFully, x -> x.gain(5, 0));
        refused("corner 9", -99, EdgesOfTicks::fedFully, x -> x.gain(0, 9));
    }

    private static SizedParts fedFully() {
        SizedParts x = rich();
        x.feedAt(20);
        return x;
    }

    @Promise(n = 15, says = {"GAIN of a NODE (0 to 4) in a CORNER.", "its LEVEL in THE END with THE FEED 1 higher, less that as it is"})
    void gainFromTheFeedAt0And19() {
        SizedParts x = withLine();
        x.part(BRIDGE, 12, 4, 5, 0); // node 2 comes to the feed's level
        for (int feed : new int[] {0, 19}) {
            x.feedAt(feed);
            int[] due = {0, 1, 1, 0, 0};
            for (int node = 0; node <= 4; node++) is("node " + node + " from " + feed, x.gain(node, 4), due[node]);
            is("the feed stays", x.many(8), feed);
        }
    }

    @Promise(n = 15, says = {"Answers below 0, where not told otherwise, are refusals", "its LEVEL in THE END with THE FEED 1 higher, less that as it is"})
    void gainBelow0() {
        SizedParts x = new SizedParts();
        x.part(SOURCE, 12, 4, 0, 0);
        x.breaks(0, 2);
        x.start(state(11, 0, 0));
        is("11 stays with 11; 11, 1, 20, 0, 20 with 10", x.gain(2, 4), -9);
        x.start(state(10, 0, 0));
        is("10, 20, 0, 20 with 11; 10 stays with 10", x.gain(2, 4), 10);
    }
}
