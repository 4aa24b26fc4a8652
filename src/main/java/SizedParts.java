import java.util.Arrays;

/**
 * Nodes with parts between them, whose laws are tables that are off by so much as they are made and
 * as it is hot; wishes about where they come to, and searches for sizes, breaks and changes.
 * The promises and the terms (PART, STATE, CORNER ..) are told in the document.
 */
public final class SizedParts {
    public static final int BAD = -1, FULL = -2, NONE = -3, STATE = -4;

    private static final int NOTHING_THERE = -11, OUTSIDE = -12, OTHER_SORT = -13, BELOW_ZERO = -14, PARTED_BY_ZERO = -15;
    private static final int NO_SUCH = -9, NO_FLOW = -999999, MISSED_NOW = -5, NO_GAIN = -99, FEED_AT_TOP = -98;
    private static final int READ_FAULT = -100, TOO_FEW_ROWS = 11, FIRST_MISSED = 20;

    private static final int NODES = 5, GROUND = 0, FEED = 1, FIRST_INNER = 2, LAST_INNER = 4;
    private static final int LEVELS = 21, TOP_LEVEL = 20, STATES = 9261, CORNERS = 9, MIDDLE_CORNER = 4;
    private static final int MAX_TABLES = 4, MAX_PARTS = 10, MAX_WISHES = 8, MAX_OPEN = 4, MAX_CHANGES = 6;
    private static final int MAX_TAPE = 220, MAX_WIDTH = 4, MAX_BRACKETS = 4, TOP_SIZE = 9, TOP_NUMBER = 30;
    private static final int SHEETS = 4, SHELVES = 4, MAX_ITEMS = 40, MAX_TRACE = 30;
    private static final int BRIDGE = 1, VALVE = 2, PAIR = 3, STORE = 4, SOURCE = 5;
    private static final int WHOLE = 0, OPENED = 1, SHUT = 2;

    private final Plan now = new Plan();
    private final Plan kept = new Plan();
    private final Search search = new Search();
    private final Bench bench = search.bench; // one for all calls, as each sets it up anew
    private final Rests atRest = new Rests();
    private final Reader reader = new Reader();
    private final Host host = new Host();
    private final Acts acts = new Acts();
    private final int[] rowPart = new int[MAX_OPEN];
    private final int[] rowSize = new int[MAX_OPEN];
    private int rowCount = 0;
    private boolean hasKept = false;

    public SizedParts() {
    }

    // ---- tables, parts

    public int table(int sheet) {
        if (!within(sheet, 0, SHEETS - 1)) return BAD;
        int refusal = host.refusal(sheet, 0);
        if (refusal != 0) return refusal;
        if (!host.isTable(sheet)) return STATE;
        if (now.tableCount >= MAX_TABLES) return FULL;
        for (int i = 0; i < LEVELS; i++) now.tables[now.tableCount * LEVELS + i] = host.itemAt(sheet, i);
        now.tableCount++;
        return now.tableCount - 1;
    }

    public int part(int kind, int ends, int size, int law, int gate) {
        if (!within(kind, BRIDGE, SOURCE) || !areEnds(ends) || !within(size, 1, TOP_SIZE)) return BAD;
        if (hasLaw(kind) && !now.isLaw(law)) return BAD;
        if (hasGate(kind) && !now.isGate(kind, gate)) return BAD;
        if (now.partCount >= MAX_PARTS) return FULL;
        now.parts[now.partCount].become(kind, ends, size, law, gate);
        now.partCount++;
        return now.partCount - 1;
    }

    public int partOf(int part, int what) {
        if (!now.hasPart(part)) return BAD;
        return now.parts[part].told(what);
    }

    public int size(int part, int size) {
        if (!now.hasPart(part) || !within(size, 1, TOP_SIZE)) return BAD;
        int was = now.parts[part].size;
        now.parts[part].size = size;
        return was;
    }

    public int breaks(int part, int how) {
        if (!now.hasPart(part) || !within(how, WHOLE, SHUT)) return BAD;
        int was = now.parts[part].broken;
        now.parts[part].broken = how;
        return was;
    }

    public int drop() {
        if (now.partCount == 0) return NONE;
        now.partCount--;
        now.dropChangesOf(now.partCount);
        return now.partCount;
    }

    public int feedAt(int level) {
        if (!within(level, 0, TOP_LEVEL)) return BAD;
        int was = now.feedLevel;
        now.feedLevel = level;
        return was;
    }

    public int start(int state) {
        if (!isState(state)) return BAD;
        int was = now.startState;
        now.startState = state;
        return was;
    }

    // ---- ticks, rests

    public int flow(int part, int state, int corner) {
        if (!now.hasPart(part) || !isState(state) || !isCorner(corner)) return NO_FLOW;
        bench.setUp(now, corner, now.feedLevel);
        bench.place(state);
        return bench.through(part);
    }

    public int tick(int state, int corner) {
        if (!isState(state) || !isCorner(corner)) return BAD;
        bench.setUp(now, corner, now.feedLevel);
        bench.place(state);
        bench.move();
        return bench.stateNow();
    }

    public int goes(int corner, int what) {
        if (!isCorner(corner) || !within(what, 0, 2)) return BAD;
        bench.setUp(now, corner, now.feedLevel);
        bench.walk(now.startState);
        return what == 0 ? bench.end : what == 1 ? bench.pace : bench.ring;
    }

    public int rests(int corner) {
        if (!isCorner(corner)) return BAD;
        bench.setUp(now, corner, now.feedLevel);
        atRest.find(bench, -1);
        return atRest.found;
    }

    public int restAt(int corner, int i) {
        if (!isCorner(corner)) return BAD;
        if (!within(i, 0, STATES - 1)) return NONE;
        bench.setUp(now, corner, now.feedLevel);
        atRest.find(bench, i);
        return atRest.hit ? atRest.state : NONE;
    }

    public int gain(int node, int corner) {
        if (!within(node, GROUND, LAST_INNER) || !isCorner(corner)) return NO_GAIN;
        if (now.feedLevel >= TOP_LEVEL) return FEED_AT_TOP;
        bench.setUp(now, corner, now.feedLevel + 1);
        bench.walk(now.startState);
        int higher = bench.level[node];
        bench.setUp(now, corner, now.feedLevel);
        bench.walk(now.startState);
        return higher - bench.level[node];
    }

    // ---- wishes

    public int feed(long eight, int n) {
        if (!within(n, 1, 8)) return BAD;
        if (reader.length + n > MAX_TAPE) return FULL;
        reader.take(eight, n);
        return reader.length;
    }

    public int read() {
        int fault = reader.parse();
        reader.length = 0;
        if (fault >= 0) return READ_FAULT - fault;
        now.wishes.copyFrom(reader.draft);
        return now.wishes.count;
    }

    public int missed() {
        return search.missing(now);
    }

    public int worst(int wish) {
        if (!within(wish, 0, now.wishes.count - 1)) return BAD;
        int corner = search.firstMiss(now, wish);
        return corner < 0 ? NONE : corner;
    }

    public int holds(int corner) {
        if (!isCorner(corner)) return BAD;
        return search.holding(now, corner);
    }

    // ---- sizing, breaks, changes

    public int open(int part, int from, int to) {
        if (!now.hasPart(part)) return BAD;
        if (to != 0) {
            if (!within(from, 1, TOP_SIZE) || !within(to, from, TOP_SIZE) || to - from >= MAX_WIDTH) return BAD;
            if (!now.parts[part].isOpen() && now.openCount() >= MAX_OPEN) return FULL;
        }
        now.parts[part].from = to == 0 ? 0 : from;
        now.parts[part].to = to;
        return now.openCount();
    }

    public int sizing(int what) {
        if (!within(what, -1, now.openCount() - 1)) return BAD;
        if (!search.findSizing(now)) return NONE;
        return what < 0 ? search.sum : search.chosen[what];
    }

    public int prove() {
        if (!search.findSizing(now)) return NONE;
        rowCount = search.openCount;
        for (int i = 0; i < rowCount; i++) {
            rowPart[i] = search.openPart[i];
            rowSize[i] = search.chosen[i];
        }
        return rowCount;
    }

    public int row(int i, int what) {
        if (!within(i, 0, rowCount - 1) || !within(what, 0, 1)) return NO_SUCH;
        return what == 0 ? rowPart[i] : rowSize[i];
    }

    public int alterRow(int i, int what, int v) {
        if (!within(i, 0, rowCount - 1) || !within(what, 0, 1)) return NO_SUCH;
        int was = what == 0 ? rowPart[i] : rowSize[i];
        if (what == 0) rowPart[i] = v;
        else rowSize[i] = v;
        return was;
    }

    public int judge() {
        search.listOpen(now);
        for (int i = 0; i < rowCount; i++) {
            if (!search.isRight(now, i, rowPart[i], rowSize[i])) return i + 1;
        }
        if (rowCount < search.openCount) return TOO_FEW_ROWS;
        int misses = search.missingWith(now, rowSize);
        return misses == 0 ? 0 : FIRST_MISSED + Integer.numberOfTrailingZeros(misses);
    }

    public int far(int part, boolean up) {
        if (!now.hasPart(part)) return BAD;
        return search.reach(now, part, up ? 1 : -1);
    }

    public int falls(int part, int how) {
        if (!now.hasPart(part) || !within(how, OPENED, SHUT)) return BAD;
        return search.fallen(now, part, how);
    }

    public int change(int part, int what) {
        if (!now.hasPart(part) || !within(what, 0, 2)) return BAD;
        if (now.changeCount >= MAX_CHANGES) return FULL;
        now.changePart[now.changeCount] = part;
        now.changeWhat[now.changeCount] = what;
        now.changeCount++;
        return now.changeCount - 1;
    }

    public int help() {
        return search.fewestChanges(now);
    }

    public int measured(int node, int level) {
        if (!within(node, FIRST_INNER, LAST_INNER) || !within(level, -1, TOP_LEVEL)) return NO_SUCH;
        int was = now.measures[node];
        now.measures[node] = level;
        return was;
    }

    public int which() {
        return search.suspects(now);
    }

    // ---- the host

    public int sheet(int sheet, int sort, int n) {
        if (!within(sheet, 0, SHEETS - 1) || !within(sort, -1, 3)) return BAD;
        if (sort >= 0 && n > MAX_ITEMS) return BAD;
        if (sort >= 0 && n < 0) return BELOW_ZERO;
        host.lay(sheet, sort, n);
        return 1;
    }

    public int put(int sheet, int i, int v) {
        if (!within(sheet, 0, SHEETS - 1)) return BAD;
        if (host.sort[sheet] < 0) return NOTHING_THERE;
        if (!host.hasItem(sheet, i)) return OUTSIDE;
        host.write(sheet, i, v);
        return 1;
    }

    public int item(int sheet, int sort, int i) {
        if (!within(sheet, 0, SHEETS - 1) || !within(sort, 0, 3)) return BAD;
        int refusal = host.refusal(sheet, sort);
        if (refusal != 0) return refusal;
        if (!host.hasItem(sheet, i)) return OUTSIDE;
        return host.itemAt(sheet, i);
    }

    public int sizes(int part, int sheet, int i, int n) {
        if (!within(sheet, 0, SHEETS - 1) || !now.hasPart(part) || !within(n, 0, MAX_PARTS)) return BAD;
        int refusal = host.refusal(sheet, 1);
        if (refusal != 0) return refusal;
        int came = 0;
        for (int k = 0; k < n; k++) {
            if (!host.hasItem(sheet, i + k)) return OUTSIDE;
            int size = host.itemAt(sheet, i + k);
            if (within(size, 1, TOP_SIZE) && now.hasPart(part + k)) {
                now.parts[part + k].size = size;
                came++;
            }
        }
        return came;
    }

    public int shelf(int shelf, int what, int n) {
        if (!within(shelf, 0, SHELVES - 1) || !within(what, 0, 2)) return BAD;
        if (what == 0 && !now.hasPart(n)) return BAD;
        if (what == 1 && !within(n, 0, SHEETS - 1)) return BAD;
        if (what == 0) host.holdPart(shelf, n);
        else if (what == 1) host.holdRow(shelf, n);
        else host.holdNothing(shelf);
        return 1;
    }

    public int taken(int shelf, int as) {
        if (!within(shelf, 0, SHELVES - 1) || !(within(as, 0, 6) || within(as, 10, 13))) return BAD;
        if (host.holdsRow(shelf)) return as == 10 + host.heldSort[shelf] ? host.heldLength[shelf] : OTHER_SORT;
        int part = host.heldPart[shelf];
        if (!now.hasPart(part)) return NOTHING_THERE;
        return as <= 6 && acts.isUnder(now.parts[part].thing(), as) ? part : OTHER_SORT;
    }

    public int act(int shelf, int act, int x) {
        acts.count = 0;
        if (!within(shelf, 0, SHELVES - 1) || !within(act, 0, 3) || host.holdsRow(shelf)) return 0;
        int part = host.heldPart[shelf];
        if (!now.hasPart(part)) return 0;
        return acts.answer(now.parts[part], part, act, x);
    }

    public int trace(int i) {
        return within(i, 0, acts.count - 1) ? acts.bodies[i] : NONE;
    }

    public int many(int what) {
        switch (what) {
            case 0: return now.partCount;
            case 1: return now.tableCount;
            case 2: return now.wishes.count;
            case 3: return now.openCount();
            case 4: return now.changeCount;
            case 5: return rowCount;
            case 6: return reader.length;
            case 7: return acts.count;
            case 8: return now.feedLevel;
            case 9: return now.startState;
            case 10: return now.brokenCount();
            default: return BAD;
        }
    }

    // ---- kept

    public int keep() {
        kept.copyFrom(now);
        hasKept = true;
        return 1;
    }

    public int again() {
        if (!hasKept) return NONE;
        now.copyFrom(kept);
        return 1;
    }

    // ---- what numbers may be

    private static boolean within(int v, int least, int most) {
        return v >= least && v <= most;
    }

    private static boolean isState(int state) {
        return within(state, 0, STATES - 1);
    }

    private static boolean isCorner(int corner) {
        return within(corner, 0, CORNERS - 1);
    }

    private static boolean areEnds(int ends) {
        if (!within(ends, 0, 99)) return false;
        int first = ends / 10, second = ends % 10;
        return first < NODES && second < NODES && first != second;
    }

    private static boolean hasLaw(int kind) {
        return kind == BRIDGE || kind == VALVE || kind == PAIR;
    }

    private static boolean hasGate(int kind) {
        return kind == VALVE || kind == PAIR;
    }

    /** A PART. What its KIND has none of is held as -9, as partOf() tells it. */
    private static final class Part {
        int kind, first, second, size, broken, table, err, warmAndFive, gate, twin;
        int from, to; // 0, 0: not OPEN

        void become(int newKind, int ends, int newSize, int law, int gateAndTwin) {
            kind = newKind;
            first = ends / 10;
            second = ends % 10;
            size = newSize;
            broken = WHOLE;
            table = hasLaw(kind) ? law / 100 : NO_SUCH;
            err = hasLaw(kind) ? law / 10 % 10 : NO_SUCH;
            warmAndFive = hasLaw(kind) ? law % 10 : NO_SUCH;
            gate = hasGate(kind) ? gateAndTwin % 10 : NO_SUCH;
            twin = kind == PAIR ? gateAndTwin / 10 : NO_SUCH;
            from = 0;
            to = 0;
        }

        void copyFrom(Part other) {
            kind = other.kind;
            first = other.first;
            second = other.second;
            size = other.size;
            broken = other.broken;
            table = other.table;
            err = other.err;
            warmAndFive = other.warmAndFive;
            gate = other.gate;
            twin = other.twin;
            from = other.from;
            to = other.to;
        }

        int told(int what) {
            switch (what) {
                case 0: return kind;
                case 1: return first * 10 + second;
                case 2: return size;
                case 3: return broken;
                case 4: return table;
                case 5: return err;
                case 6: return warmAndFive;
                case 7: return gate;
                case 8: return twin;
                default: return BAD;
            }
        }

        boolean isOpen() {
            return to != 0;
        }

        int thing() {
            return broken == WHOLE ? kind : Acts.BROKEN;
        }

        void suffer(int change) {
            if (change == 0) {
                broken = OPENED;
            } else if (change == 1) {
                int node = first;
                first = second;
                second = node;
            } else {
                size = 10 - size;
            }
        }
    }

    /** All that keep() keeps. */
    private static final class Plan {
        final Part[] parts = new Part[MAX_PARTS];
        final int[] tables = new int[MAX_TABLES * LEVELS];
        final int[] changePart = new int[MAX_CHANGES];
        final int[] changeWhat = new int[MAX_CHANGES];
        final int[] measures = {-1, -1, -1, -1, -1}; // by NODE, of which only the INNER ones are told
        final Wishes wishes = new Wishes();
        int partCount, tableCount, changeCount, startState;
        int feedLevel = 10;

        Plan() {
            for (int i = 0; i < MAX_PARTS; i++) parts[i] = new Part();
        }

        void copyFrom(Plan other) {
            copyParts(other);
            System.arraycopy(other.tables, 0, tables, 0, MAX_TABLES * LEVELS);
            System.arraycopy(other.changePart, 0, changePart, 0, MAX_CHANGES);
            System.arraycopy(other.changeWhat, 0, changeWhat, 0, MAX_CHANGES);
            System.arraycopy(other.measures, 0, measures, 0, NODES);
            wishes.copyFrom(other.wishes);
            tableCount = other.tableCount;
            changeCount = other.changeCount;
            startState = other.startState;
            feedLevel = other.feedLevel;
        }

        void copyParts(Plan other) {
            partCount = other.partCount;
            for (int i = 0; i < partCount; i++) parts[i].copyFrom(other.parts[i]);
        }

        boolean hasPart(int part) {
            return within(part, 0, partCount - 1);
        }

        boolean isLaw(int law) {
            return law >= 0 && law / 100 < tableCount && law / 10 % 10 <= 5;
        }

        boolean isGate(int kind, int gate) {
            if (gate < 0 || gate % 10 >= NODES) return false;
            int twin = gate / 10;
            if (kind == VALVE) return twin == 0;
            return hasPart(twin) && hasGate(parts[twin].kind);
        }

        void dropChangesOf(int part) {
            int left = 0;
            for (int i = 0; i < changeCount; i++) {
                if (changePart[i] != part) {
                    changePart[left] = changePart[i];
                    changeWhat[left] = changeWhat[i];
                    left++;
                }
            }
            changeCount = left;
        }

        int openCount() {
            int count = 0;
            for (int i = 0; i < partCount; i++) {
                if (parts[i].isOpen()) count++;
            }
            return count;
        }

        int brokenCount() {
            int count = 0;
            for (int i = 0; i < partCount; i++) {
                if (parts[i].broken != WHOLE) count++;
            }
            return count;
        }
    }

    /** A PLAN in one CORNER, laid out for quick TICKS. */
    private static final class Bench {
        private static final int STILL = 0, BY_TABLE = 1, GATED = 2, STEADY = 3, FALLING = 4;

        final int[] level = new int[NODES];
        final int[] net = new int[NODES];
        final int[] weight = new int[NODES];
        final int[] mode = new int[MAX_PARTS];
        final int[] first = new int[MAX_PARTS];
        final int[] second = new int[MAX_PARTS];
        final int[] gate = new int[MAX_PARTS];
        final int[] tableAt = new int[MAX_PARTS];
        final int[] shift = new int[MAX_PARTS];
        final int[] factor = new int[MAX_PARTS];
        final long[] seen = new long[STATES / 64 + 1];
        int count, end, pace, ring;
        private int[] tables = new int[MAX_TABLES * LEVELS]; // those of the PLAN, from setUp() on

        void setUp(Plan plan, int corner, int feedLevel) {
            count = plan.partCount;
            tables = plan.tables;
            level[GROUND] = 0;
            level[FEED] = feedLevel;
            Arrays.fill(weight, 4);
            for (int i = 0; i < count; i++) {
                Part part = plan.parts[i];
                first[i] = part.first;
                second[i] = part.second;
                mode[i] = modeOf(part);
                factor[i] = part.size;
                if (mode[i] == BY_TABLE || mode[i] == GATED) setUpLaw(plan, i, corner / 3 - 1, corner % 3 - 1);
                if (part.kind == STORE && part.broken == WHOLE) {
                    weight[part.first] += part.size;
                    weight[part.second] += part.size;
                }
            }
        }

        private void setUpLaw(Plan plan, int i, int making, int heat) {
            Part part = plan.parts[i];
            boolean twinned = part.kind == PAIR && part.twin >= 0 && part.twin < plan.partCount;
            int size = twinned ? plan.parts[part.twin].size : part.size;
            tableAt[i] = part.table * LEVELS;
            shift[i] = part.err * making;
            factor[i] = size * (10 + (part.warmAndFive - 5) * heat);
            gate[i] = mode[i] == GATED ? part.gate : GROUND;
        }

        private static int modeOf(Part part) {
            if (part.kind == STORE || part.broken == OPENED) return STILL;
            if (part.broken == SHUT) return FALLING;
            if (part.kind == SOURCE) return STEADY;
            return part.kind == BRIDGE ? BY_TABLE : GATED;
        }

        void place(int state) {
            level[2] = state / (LEVELS * LEVELS);
            level[3] = state / LEVELS % LEVELS;
            level[4] = state % LEVELS;
        }

        int stateNow() {
            return (level[2] * LEVELS + level[3]) * LEVELS + level[4];
        }

        /** The FLOW of a PART at the LEVELS as they are. */
        int through(int part) {
            int fall = level[first[part]] - level[second[part]];
            if (mode[part] == STEADY) return factor[part];
            if (mode[part] == FALLING) return 40 * fall;
            if (mode[part] == STILL || fall == 0) return 0;
            int number = tables[tableAt[part] + (fall < 0 ? -fall : fall)] + shift[part];
            if (number <= 0) return 0;
            int much = number * factor[part] / 10;
            if (fall < 0) much = -much;
            int width = mode[part] == GATED ? level[gate[part]] : 10;
            return width < 10 ? much * width / 10 : much;
        }

        /** A TICK. */
        void move() {
            Arrays.fill(net, 0);
            for (int i = 0; i < count; i++) {
                if (mode[i] == STILL) continue;
                int much = through(i);
                net[first[i]] -= much;
                net[second[i]] += much;
            }
            for (int node = FIRST_INNER; node <= LAST_INNER; node++) level[node] = moved(node, net[node]);
        }

        int moved(int node, int much) {
            int by = weight[node];
            int to = level[node] + (by > 0 ? much / by : 0);
            return to < 0 ? 0 : to > TOP_LEVEL ? TOP_LEVEL : to;
        }

        /** From a STATE on to THE END, whose LEVELS then stand here. */
        void walk(int from) {
            Arrays.fill(seen, 0L);
            place(from);
            int at = from;
            for (int ticks = 0; ticks <= STATES; ticks++) {
                seen[at / 64] |= 1L << at % 64;
                move();
                int next = stateNow();
                if (next == at || (seen[next / 64] >>> next % 64 & 1L) != 0) {
                    int round = 1;
                    if (next != at) move(); // at REST a round needs no TICK more
                    for (; round < STATES && stateNow() != next; round++) move();
                    end = next;
                    ring = round;
                    pace = ticks + 1 - round;
                    return;
                }
                at = next;
            }
        }
    }

    /**
     * The STATES at REST, by numbers. LEVELS are set node by node; a FLOW is added as soon as all
     * LEVELS that it hangs on are set, and a NODE that would move then spares all STATES behind.
     */
    private static final class Rests {
        final int[] knownAt = new int[MAX_PARTS]; // the INNER NODE with whose LEVEL a FLOW is known; 0: it counts nothing
        final int[] settledAt = new int[NODES];   // the INNER NODE with whose LEVEL a NET is known
        final int[] sums = new int[NODES * NODES]; // NETS as far as they are known with each NODE
        int wanted, found, state;
        boolean hit;

        /** Counts all, or stops at the i-th. */
        void find(Bench bench, int i) {
            wanted = i;
            found = 0;
            hit = false;
            order(bench);
            seek(bench, FIRST_INNER);
        }

        private void order(Bench bench) {
            for (int node = 0; node < NODES; node++) settledAt[node] = node;
            for (int i = 0; i < bench.count; i++) {
                int a = bench.first[i], b = bench.second[i];
                int known = Math.max(a, b);
                if (bench.mode[i] == Bench.STILL || known < FIRST_INNER) {
                    knownAt[i] = 0;
                    continue;
                }
                if (bench.mode[i] == Bench.GATED) known = Math.max(known, bench.gate[i]);
                knownAt[i] = known;
                settledAt[a] = Math.max(settledAt[a], known);
                settledAt[b] = Math.max(settledAt[b], known);
            }
        }

        private void seek(Bench bench, int node) {
            if (node > LAST_INNER) return;
            for (int l = 0; l <= TOP_LEVEL && !hit; l++) {
                bench.level[node] = l;
                addFlows(bench, node);
                if (!stay(bench, node)) continue;
                if (node < LAST_INNER) seek(bench, node + 1);
                else note(bench.stateNow());
            }
        }

        private void addFlows(Bench bench, int node) {
            int at = node * NODES;
            for (int i = 0; i < NODES; i++) sums[at + i] = node == FIRST_INNER ? 0 : sums[at - NODES + i];
            for (int i = 0; i < bench.count; i++) {
                if (knownAt[i] != node) continue;
                int much = bench.through(i);
                sums[at + bench.first[i]] -= much;
                sums[at + bench.second[i]] += much;
            }
        }

        private boolean stay(Bench bench, int node) {
            for (int i = FIRST_INNER; i <= node; i++) {
                if (settledAt[i] == node && bench.moved(i, sums[node * NODES + i]) != bench.level[i]) return false;
            }
            return true;
        }

        private void note(int at) {
            if (found == wanted) {
                hit = true;
                state = at;
            }
            found++;
        }
    }

    /** WISHES as rows of steps, values first; a step is its sort times 1000, and its number. */
    private static final class Wishes {
        static final int NUMBER = 0, NODE = 1, FLOW = 2, PACE = 3, RING = 4, FED = 5;
        static final int PLUS = 6, LESS = 7, EQUAL = 8, MORE = 9, NOT = 10, AND = 11, OR = 12;
        static final int SORT = 1000;

        final int[] steps = new int[MAX_TAPE];
        final int[] begin = new int[MAX_WISHES + 1]; // of each WISH, and where the latest one ends
        int count, used;

        void clear() {
            count = 0;
            used = 0;
        }

        void add(int sort, int number) {
            if (used >= MAX_TAPE) return;
            steps[used] = sort * SORT + number;
            used++;
        }

        void close() {
            if (count >= MAX_WISHES) return;
            count++;
            begin[count] = used;
        }

        int all() {
            return (1 << count) - 1;
        }

        void copyFrom(Wishes other) {
            count = other.count;
            used = other.used;
            System.arraycopy(other.steps, 0, steps, 0, used);
            System.arraycopy(other.begin, 0, begin, 0, count + 1);
        }
    }

    /** THE TAPE, and a TEXT read from it. */
    private static final class Reader {
        private static final int END = 0, WRONG = 1, NUMBER = 2, LEFT = 3, RIGHT = 4, PLUS = 5, LESS = 6, EQUAL = 7, MORE = 8;
        private static final int STOP = 9, WISH = 10, OR = 11, AND = 12, NOT = 13, NODE = 14, FLOW = 15, PACE = 16, RING = 17, FED = 18;

        final int[] tape = new int[MAX_TAPE];
        final Wishes draft = new Wishes();
        int length;
        private final int[] sorts = new int[MAX_TAPE + 1]; // of the words, numbers and signs, and the end
        private final int[] places = new int[MAX_TAPE + 1];
        private final int[] numbers = new int[MAX_TAPE + 1];
        private int at;     // the one that is next
        private int token;  // its sort
        private int behind; // the place behind the latest one that was scanned

        void take(long eight, int n) {
            for (int i = 0; i < n && length < MAX_TAPE; i++) {
                tape[length] = (int) (eight >>> 8 * i & 255L);
                length++;
            }
        }

        /** -1, if THE TAPE is a TEXT, which the draft is then; else the FAULT. */
        int parse() {
            scan();
            draft.clear();
            at = 0;
            token = sorts[0];
            for (int i = 0; i <= MAX_WISHES && token != END; i++) {
                if (i == MAX_WISHES || token != WISH) return places[at];
                step();
                if (!cond(0) || token != STOP) return places[at];
                draft.close();
                step();
            }
            return -1;
        }

        /** Nothing behind the end is ever next. */
        private void step() {
            if (token != END && at < MAX_TAPE) at++;
            token = sorts[at];
        }

        private boolean cond(int brackets) {
            boolean either = false, both = false; // an "or", an "and" waits for its right side
            for (int i = 0; i < MAX_TAPE; i++) {
                boolean turned = false;
                for (int k = 0; k < MAX_TAPE && token == NOT; k++) {
                    turned = !turned;
                    step();
                }
                if (!(token == LEFT ? bracket(brackets) : comparison())) return false;
                if (turned) draft.add(Wishes.NOT, 0);
                if (both) draft.add(Wishes.AND, 0);
                both = token == AND;
                if (either && !both) draft.add(Wishes.OR, 0);
                if (!both) either = token == OR;
                if (!both && !either) return true;
                step();
            }
            return false;
        }

        private boolean bracket(int brackets) {
            if (brackets >= MAX_BRACKETS) return false;
            step();
            if (!cond(brackets + 1) || token != RIGHT) return false;
            step();
            return true;
        }

        private boolean comparison() {
            if (!sum()) return false;
            int sign = token == LESS ? Wishes.LESS : token == EQUAL ? Wishes.EQUAL : Wishes.MORE;
            if (token != LESS && token != EQUAL && token != MORE) return false;
            step();
            if (!sum()) return false;
            draft.add(sign, 0);
            return true;
        }

        private boolean sum() {
            if (!value()) return false;
            for (int i = 0; i < MAX_TAPE && token == PLUS; i++) {
                step();
                if (!value()) return false;
                draft.add(Wishes.PLUS, 0);
            }
            return true;
        }

        private boolean value() {
            switch (token) {
                case NUMBER: return numbered(Wishes.NUMBER, 999);
                case NODE: step(); return numbered(Wishes.NODE, NODES - 1);
                case FLOW: step(); return numbered(Wishes.FLOW, MAX_PARTS - 1);
                case PACE: return plain(Wishes.PACE);
                case RING: return plain(Wishes.RING);
                case FED: return plain(Wishes.FED);
                default: return false;
            }
        }

        private boolean numbered(int sort, int most) {
            if (token != NUMBER || numbers[at] > most) return false;
            draft.add(sort, numbers[at]);
            step();
            return true;
        }

        private boolean plain(int sort) {
            draft.add(sort, 0);
            step();
            return true;
        }

        private void scan() {
            behind = 0;
            for (int i = 0; i <= MAX_TAPE; i++) {
                while (behind < length && tape[behind] == ' ') behind++;
                places[i] = behind;
                numbers[i] = 0;
                sorts[i] = behind < length ? scanOne(i, behind) : END;
                if (sorts[i] == END) return;
            }
        }

        private int scanOne(int i, int place) {
            if (isDigit(tape[place])) {
                while (behind < length && isDigit(tape[behind])) behind++;
                if (behind - place > 3) return WRONG;
                for (int k = place; k < behind; k++) numbers[i] = numbers[i] * 10 + tape[k] - '0';
                return NUMBER;
            }
            if (isLetter(tape[place])) {
                while (behind < length && isLetter(tape[behind])) behind++;
                return word(place);
            }
            behind++;
            return sign(tape[place]);
        }

        private static boolean isDigit(int sign) {
            return within(sign, '0', '9');
        }

        private static boolean isLetter(int sign) {
            return within(sign, 'a', 'z');
        }

        private int word(int place) {
            if (spells(place, "wish")) return WISH;
            if (spells(place, "or")) return OR;
            if (spells(place, "and")) return AND;
            if (spells(place, "not")) return NOT;
            if (spells(place, "node")) return NODE;
            if (spells(place, "flow")) return FLOW;
            if (spells(place, "pace")) return PACE;
            if (spells(place, "ring")) return RING;
            return spells(place, "feed") ? FED : WRONG;
        }

        private boolean spells(int place, String word) {
            if (behind - place != word.length()) return false;
            for (int i = 0; i < word.length(); i++) {
                if (tape[place + i] != word.charAt(i)) return false;
            }
            return true;
        }

        private static int sign(int sign) {
            switch (sign) {
                case '(': return LEFT;
                case ')': return RIGHT;
                case '+': return PLUS;
                case '<': return LESS;
                case '=': return EQUAL;
                case '>': return MORE;
                case ';': return STOP;
                default: return WRONG;
            }
        }
    }

    /** Whether WISHES are MET, and what would have to be otherwise. It tries on a copy, so that what is asked stays. */
    private static final class Search {
        private static final int STACK = 32;

        final int[] openPart = new int[MAX_OPEN];
        final int[] chosen = new int[MAX_OPEN];
        final Bench bench = new Bench();
        int openCount, sum;
        private final Plan trial = new Plan();
        private final int[] stack = new int[STACK];

        // ---- wishes

        /** The WISHES whose COND holds in a CORNER, as bits. */
        int holding(Plan plan, int corner) {
            if (plan.wishes.count == 0) return 0;
            bench.setUp(plan, corner, plan.feedLevel);
            bench.walk(plan.startState);
            int bits = 0;
            for (int i = 0; i < plan.wishes.count; i++) {
                if (isTrue(plan.wishes, i)) bits |= 1 << i;
            }
            return bits;
        }

        int missing(Plan plan) {
            int misses = 0;
            for (int corner = 0; corner < CORNERS && misses != plan.wishes.all(); corner++) {
                misses |= plan.wishes.all() & ~holding(plan, corner);
            }
            return misses;
        }

        boolean allMet(Plan plan) {
            for (int corner = 0; corner < CORNERS; corner++) {
                if (holding(plan, corner) != plan.wishes.all()) return false;
            }
            return true;
        }

        /** The first CORNER in which a WISH doesn't hold; -1: there is none. */
        int firstMiss(Plan plan, int wish) {
            for (int corner = 0; corner < CORNERS; corner++) {
                if ((holding(plan, corner) >> wish & 1) == 0) return corner;
            }
            return -1;
        }

        private boolean isTrue(Wishes wishes, int wish) {
            int top = 0;
            for (int i = wishes.begin[wish]; i < wishes.begin[wish + 1]; i++) {
                int sort = wishes.steps[i] / Wishes.SORT;
                if (sort < Wishes.PLUS && top < STACK) {
                    stack[top] = valueOf(sort, wishes.steps[i] % Wishes.SORT);
                    top++;
                } else if (sort == Wishes.NOT && top > 0) {
                    stack[top - 1] = 1 - stack[top - 1];
                } else if (top > 1) {
                    top--;
                    stack[top - 1] = joined(sort, stack[top - 1], stack[top]);
                }
            }
            return stack[0] != 0;
        }

        private int valueOf(int sort, int number) {
            switch (sort) {
                case Wishes.NUMBER: return number;
                case Wishes.NODE: return number < NODES ? bench.level[number] : 0;
                case Wishes.FLOW: return number < bench.count ? bench.through(number) : 0;
                case Wishes.PACE: return bench.pace;
                case Wishes.RING: return bench.ring;
                default: return bench.level[FEED];
            }
        }

        private static int joined(int sort, int left, int right) {
            switch (sort) {
                case Wishes.PLUS: return left + right;
                case Wishes.LESS: return left < right ? 1 : 0;
                case Wishes.EQUAL: return left == right ? 1 : 0;
                case Wishes.MORE: return left > right ? 1 : 0;
                case Wishes.AND: return left & right;
                default: return left | right;
            }
        }

        // ---- sizing

        void listOpen(Plan plan) {
            openCount = 0;
            for (int i = 0; i < plan.partCount && openCount < MAX_OPEN; i++) {
                if (plan.parts[i].isOpen()) {
                    openPart[openCount] = i;
                    openCount++;
                }
            }
        }

        /** SIZING: chosen, with its sum; false: there is none. */
        boolean findSizing(Plan plan) {
            listOpen(plan);
            trial.copyFrom(plan);
            int rows = 1, least = 0, most = 0;
            for (int i = 0; i < openCount; i++) {
                Part part = plan.parts[openPart[i]];
                rows *= part.to - part.from + 1;
                least += part.from;
                most += part.to;
            }
            // the sums go upwards, so that the first row that is met is the least one
            for (int s = least; s <= most; s++) {
                for (int row = 0; row < rows; row++) {
                    if (choose(plan, row) != s) continue;
                    for (int i = 0; i < openCount; i++) trial.parts[openPart[i]].size = chosen[i];
                    if (allMet(trial)) {
                        sum = s;
                        return true;
                    }
                }
            }
            return false;
        }

        /** Makes the row of a number, the last SIZE running fastest: its sum. */
        private int choose(Plan plan, int row) {
            int total = 0, left = row;
            for (int i = openCount - 1; i >= 0; i--) {
                Part part = plan.parts[openPart[i]];
                int width = part.to - part.from + 1;
                chosen[i] = part.from + Math.floorMod(left, Math.max(width, 1));
                left /= Math.max(width, 1);
                total += chosen[i];
            }
            return total;
        }

        boolean isRight(Plan plan, int i, int part, int size) {
            if (i >= openCount || openPart[i] != part) return false;
            return within(size, plan.parts[part].from, plan.parts[part].to);
        }

        /** The WISHES that are MISSED with SIZES for the OPEN PARTS, which are listed. */
        int missingWith(Plan plan, int[] size) {
            trial.copyFrom(plan);
            for (int i = 0; i < openCount && i < size.length; i++) trial.parts[openPart[i]].size = size[i];
            return missing(trial);
        }

        // ---- how far, what falls

        int reach(Plan plan, int part, int way) {
            if (!allMet(plan)) return MISSED_NOW;
            trial.copyFrom(plan);
            for (int by = 1; by <= TOP_SIZE; by++) {
                int size = plan.parts[part].size + by * way;
                if (!within(size, 1, TOP_SIZE)) return by - 1;
                trial.parts[part].size = size;
                if (!allMet(trial)) return by - 1;
            }
            return TOP_SIZE;
        }

        int fallen(Plan plan, int part, int how) {
            trial.copyFrom(plan);
            trial.parts[part].broken = how;
            int broken = missing(trial);
            trial.parts[part].broken = WHOLE;
            return broken & ~missing(trial);
        }

        // ---- changes

        int fewestChanges(Plan plan) {
            trial.copyFrom(plan);
            for (int few = 0; few <= plan.changeCount; few++) {
                for (int set = 0; set < 1 << plan.changeCount; set++) {
                    if (Integer.bitCount(set) == few && helps(plan, set)) return set;
                }
            }
            return NONE;
        }

        private boolean helps(Plan plan, int set) {
            trial.copyParts(plan);
            for (int i = 0; i < plan.changeCount; i++) {
                if ((set >> i & 1) != 0) trial.parts[plan.changePart[i]].suffer(plan.changeWhat[i]);
            }
            return allMet(trial);
        }

        // ---- which are otherwise

        int suspects(Plan plan) {
            trial.copyFrom(plan);
            if (isAsMeasured()) return 0;
            for (int i = 0; i < plan.partCount; i++) {
                if (someSizeFits(plan, i)) return 1 << i;
            }
            for (int high = 1; high < plan.partCount; high++) {
                for (int low = 0; low < high; low++) {
                    for (int size = 1; size <= TOP_SIZE; size++) {
                        // with the SIZE that it has, the other one alone was tried already
                        if (size == plan.parts[low].size) continue;
                        trial.parts[low].size = size;
                        if (someSizeFits(plan, high)) return 1 << low | 1 << high;
                    }
                    trial.parts[low].size = plan.parts[low].size;
                }
            }
            return NONE;
        }

        private boolean someSizeFits(Plan plan, int part) {
            boolean fits = false;
            for (int size = 1; size <= TOP_SIZE && !fits; size++) {
                if (size == plan.parts[part].size) continue;
                trial.parts[part].size = size;
                fits = isAsMeasured();
            }
            trial.parts[part].size = plan.parts[part].size;
            return fits;
        }

        private boolean isAsMeasured() {
            bench.setUp(trial, MIDDLE_CORNER, trial.feedLevel);
            bench.walk(trial.startState);
            for (int node = FIRST_INNER; node <= LAST_INNER; node++) {
                if (trial.measures[node] >= 0 && trial.measures[node] != bench.level[node]) return false;
            }
            return true;
        }
    }

    /** SHEETS and SHELVES. Items come as ints, so that those of every sort fit into one. */
    private static final class Host {
        final int[] sort = {-1, -1, -1, -1}; // -1: missing
        final int[] length = new int[SHEETS];
        final int[] items = new int[SHEETS * MAX_ITEMS];
        final int[] heldPart = {-1, -1, -1, -1}; // -1: none
        final int[] heldSort = {-1, -1, -1, -1}; // of a row; -1: none
        final int[] heldLength = new int[SHELVES];

        void lay(int sheet, int newSort, int n) {
            sort[sheet] = newSort;
            length[sheet] = newSort < 0 ? 0 : n;
            for (int i = 0; i < MAX_ITEMS; i++) items[sheet * MAX_ITEMS + i] = 0;
        }

        /** Why a SHEET can't be taken for a sort; 0: it can. */
        int refusal(int sheet, int as) {
            if (sort[sheet] < 0) return NOTHING_THERE;
            return sort[sheet] == as ? 0 : OTHER_SORT;
        }

        boolean hasItem(int sheet, int i) {
            return within(i, 0, length[sheet] - 1);
        }

        int itemAt(int sheet, int i) {
            return items[sheet * MAX_ITEMS + i];
        }

        void write(int sheet, int i, int v) {
            items[sheet * MAX_ITEMS + i] = sort[sheet] == 0 ? (byte) v : sort[sheet] == 1 ? (short) v : v;
        }

        boolean isTable(int sheet) {
            if (length[sheet] != LEVELS) return false;
            for (int i = 0; i < LEVELS; i++) {
                if (!within(itemAt(sheet, i), 0, TOP_NUMBER)) return false;
            }
            return true;
        }

        void holdNothing(int shelf) {
            heldPart[shelf] = -1;
            heldSort[shelf] = -1;
        }

        void holdPart(int shelf, int part) {
            heldPart[shelf] = part;
            heldSort[shelf] = -1;
        }

        /** Only the sort and the length of a row can be asked for, and these a row keeps. */
        void holdRow(int shelf, int sheet) {
            heldPart[shelf] = -1;
            heldSort[shelf] = sort[sheet];
            heldLength[shelf] = length[sheet];
        }

        boolean holdsRow(int shelf) {
            return heldSort[shelf] >= 0;
        }
    }

    /** ACTS of things, and THE TRACE. */
    private static final class Acts {
        static final int BROKEN = 6;
        private static final int FLOWS = 0, RESTS = 1, PARTS = 2, ERRS = 3, ALL = 4, DEEPEST = 40;
        private static final int[] ABOVE = {-1, 0, 1, 2, 0, 0, 0};
        /** By kind, for flows, rests, parts, errs; 0: it has none of its own. */
        private static final int[] OWN = {
            10, 11, 12, 13,
            20, 0, 0, 0,
            0, 30, 0, 31,
            40, 0, 41, 0,
            0, 50, 0, 0,
            0, 0, 0, 60,
            70, 0, 0, 0,
        };

        final int[] bodies = new int[MAX_TRACE];
        int count;
        private int kind, number, size;
        private boolean failed;

        int answer(Part part, int itsNumber, int act, int x) {
            kind = part.thing();
            number = itsNumber;
            size = part.size;
            failed = false;
            int value = run(kind, act, x, 0);
            return failed ? PARTED_BY_ZERO : value;
        }

        boolean isUnder(int lower, int upper) {
            int at = lower;
            for (int i = 0; i <= BROKEN && at >= 0; i++) {
                if (at == upper) return true;
                at = ABOVE[at];
            }
            return false;
        }

        /** The body that a kind has for an act, its own or the next above. */
        private int run(int from, int act, int x, int depth) {
            int at = from;
            for (int i = 0; i <= BROKEN && at > 0 && OWN[at * ALL + act] == 0; i++) at = ABOVE[at];
            if (failed || at < 0 || depth >= DEEPEST) return 0;
            int body = OWN[at * ALL + act], up = ABOVE[at], deep = depth + 1;
            note(body);
            switch (body) {
                case 10: return x + size;
                case 11: return run(kind, FLOWS, x, deep) * 2;
                case 12: return parted(x);
                case 13: return run(kind, RESTS, x, deep) ^ number;
                case 20: return run(up, FLOWS, x, deep) - 3;
                case 30: return run(up, RESTS, x, deep) + run(kind, FLOWS, 2, deep);
                case 31: return run(up, ERRS, x, deep) * 5;
                case 40: return run(up, FLOWS, x, deep) ^ size;
                case 41: return run(up, PARTS, x - 1, deep);
                case 50: return 0 - run(up, RESTS, x, deep);
                case 60: return run(up, ERRS, x, deep) + run(kind, PARTS, number + 1, deep);
                case 70: return run(up, FLOWS, x, deep) * 7;
                default: return 0;
            }
        }

        private int parted(int x) {
            int by = size - number;
            failed = by == 0;
            return by == 0 ? 0 : x / by;
        }

        private void note(int body) {
            if (count >= MAX_TRACE) return;
            bodies[count] = body;
            count++;
        }
    }
}
