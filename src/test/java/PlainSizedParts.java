import java.util.ArrayList;
import java.util.Arrays;
import java.util.LinkedHashMap;
import java.util.List;
import java.util.Map;

/**
 * A second SizedParts, written apart from the first as plainly and slowly as the document's words
 * go, so that RandomRunTests can hold the two against each other.
 */
final class PlainSizedParts {
    static final class P {
        int kind, a, b, size, broken, table, err, warm, gate, twin;
        int from, to;

        P copy() {
            P p = new P();
            p.kind = kind; p.a = a; p.b = b; p.size = size; p.broken = broken; p.table = table;
            p.err = err; p.warm = warm; p.gate = gate; p.twin = twin; p.from = from; p.to = to;
            return p;
        }
    }

    static final class Kept {
        List<int[]> tables = new ArrayList<>();
        List<P> parts = new ArrayList<>();
        int feed = 10, start = 0;
        List<List<String>> wishes = new ArrayList<>();
        List<int[]> changes = new ArrayList<>();
        int[] measured = {-1, -1, -1};

        Kept copy() {
            Kept k = new Kept();
            k.tables.addAll(tables);
            for (P p : parts) k.parts.add(p.copy());
            k.feed = feed;
            k.start = start;
            k.wishes.addAll(wishes);
            k.changes.addAll(changes);
            k.measured = measured.clone();
            return k;
        }
    }

    Kept k = new Kept();
    Kept latest = null;
    List<int[]> rows = new ArrayList<>();
    StringBuilder tape = new StringBuilder();
    Object[] sheets = new Object[4];
    Object[] shelves = new Object[4]; // an Integer is a PART's number, else a row
    List<Integer> trace = new ArrayList<>();

    // ---- tables, parts

    int table(int sheet) {
        if (sheet < 0 || sheet > 3) return -1;
        if (sheets[sheet] != null && !(sheets[sheet] instanceof byte[])) return -13;
        if (sheets[sheet] == null) return -11;
        byte[] row = (byte[]) sheets[sheet];
        if (row.length != 21) return -4;
        int[] t = new int[21];
        for (int i = 0; i < 21; i++) {
            t[i] = row[i];
            if (t[i] < 0 || t[i] > 30) return -4;
        }
        if (k.tables.size() == 4) return -2;
        k.tables.add(t);
        return k.tables.size() - 1;
    }

    int part(int kind, int ends, int size, int law, int gate) {
        P p = new P();
        p.kind = kind;
        if (kind < 1 || kind > 5 || size < 1 || size > 9 || ends < 0 || ends > 44) return -1;
        p.a = ends / 10;
        p.b = ends - 10 * p.a;
        if (p.b > 4 || p.a == p.b) return -1;
        p.size = size;
        if (kind <= 3) {
            if (law < 0) return -1;
            p.table = law / 100;
            p.err = (law - 100 * p.table) / 10;
            p.warm = law % 10 - 5;
            if (p.table >= k.tables.size() || p.err > 5) return -1;
        }
        if (kind == 2 || kind == 3) {
            if (gate < 0) return -1;
            p.twin = gate / 10;
            p.gate = gate % 10;
            if (p.gate > 4) return -1;
            if (kind == 2 && p.twin != 0) return -1;
            if (kind == 3) {
                if (p.twin >= k.parts.size()) return -1;
                int t = k.parts.get(p.twin).kind;
                if (t != 2 && t != 3) return -1;
            }
        }
        if (k.parts.size() == 10) return -2;
        k.parts.add(p);
        return k.parts.size() - 1;
    }

    boolean has(int part) {
        return part >= 0 && part < k.parts.size();
    }

    int partOf(int part, int what) {
        if (!has(part) || what < 0 || what > 8) return -1;
        P p = k.parts.get(part);
        if (what == 0) return p.kind;
        if (what == 1) return p.a * 10 + p.b;
        if (what == 2) return p.size;
        if (what == 3) return p.broken;
        if (p.kind > 3) return -9;
        if (what == 4) return p.table;
        if (what == 5) return p.err;
        if (what == 6) return p.warm + 5;
        if (p.kind == 1) return -9;
        if (what == 7) return p.gate;
        return p.kind == 3 ? p.twin : -9;
    }

    int size(int part, int size) {
        if (!has(part) || size < 1 || size > 9) return -1;
        int was = k.parts.get(part).size;
        k.parts.get(part).size = size;
        return was;
    }

    int breaks(int part, int how) {
        if (!has(part) || how < 0 || how > 2) return -1;
        int was = k.parts.get(part).broken;
        k.parts.get(part).broken = how;
        return was;
    }

    int drop() {
        if (k.parts.isEmpty()) return -3;
        int last = k.parts.size() - 1;
        k.parts.remove(last);
        k.changes.removeIf(c -> c[0] == last);
        return last;
    }

    int feedAt(int level) {
        if (level < 0 || level > 20) return -1;
        int was = k.feed;
        k.feed = level;
        return was;
    }

    int start(int state) {
        if (state < 0 || state > 9260) return -1;
        int was = k.start;
        k.start = state;
        return was;
    }

    // ---- ticks, rests

    static int[] levels(Kept k, int state) {
        return new int[] {0, k.feed, state / 441, state % 441 / 21, state % 21};
    }

    static int flowOf(Kept k, int part, int state, int corner) {
        P p = k.parts.get(part);
        int[] l = levels(k, state);
        int d = l[p.a] - l[p.b];
        if (p.kind == 4 || p.broken == 1) return 0;
        if (p.broken == 2) return 40 * d;
        if (p.kind == 5) return p.size;
        int size = p.kind == 3 ? k.parts.get(p.twin).size : p.size;
        int f = Math.max(0, k.tables.get(p.table)[Math.abs(d)] + p.err * (corner / 3 - 1));
        f = f * size * (10 + p.warm * (corner % 3 - 1)) / 10 * Integer.signum(d);
        return p.kind == 1 ? f : f * Math.min(10, l[p.gate]) / 10;
    }

    static int tickOf(Kept k, int state, int corner) {
        int[] l = levels(k, state);
        int[] to = new int[5];
        for (int node = 2; node <= 4; node++) {
            int net = 0, weight = 4;
            for (int i = 0; i < k.parts.size(); i++) {
                P p = k.parts.get(i);
                if (p.b == node) net += flowOf(k, i, state, corner);
                if (p.a == node) net -= flowOf(k, i, state, corner);
                if (p.kind == 4 && p.broken == 0 && (p.a == node || p.b == node)) weight += p.size;
            }
            to[node] = Math.min(20, Math.max(0, l[node] + net / weight));
        }
        return to[2] * 441 + to[3] * 21 + to[4];
    }

    /** THE END, PACE, RING. */
    static int[] goesOf(Kept k, int corner) {
        Map<Integer, Integer> came = new LinkedHashMap<>();
        int state = k.start;
        for (int t = 0; ; t++) {
            if (came.containsKey(state)) return new int[] {state, came.get(state), t - came.get(state)};
            came.put(state, t);
            state = tickOf(k, state, corner);
        }
    }

    static boolean corner(int c) {
        return c >= 0 && c <= 8;
    }

    static boolean state(int s) {
        return s >= 0 && s <= 9260;
    }

    int flow(int part, int state, int corner) {
        return has(part) && state(state) && corner(corner) ? flowOf(k, part, state, corner) : -999999;
    }

    int tick(int state, int corner) {
        return state(state) && corner(corner) ? tickOf(k, state, corner) : -1;
    }

    int goes(int corner, int what) {
        return corner(corner) && what >= 0 && what <= 2 ? goesOf(k, corner)[what] : -1;
    }

    List<Integer> restsOf(int corner) {
        List<Integer> all = new ArrayList<>();
        for (int s = 0; s <= 9260; s++) if (tickOf(k, s, corner) == s) all.add(s);
        return all;
    }

    int rests(int corner) {
        return corner(corner) ? restsOf(corner).size() : -1;
    }

    int restAt(int corner, int i) {
        if (!corner(corner)) return -1;
        List<Integer> all = restsOf(corner);
        return i >= 0 && i < all.size() ? all.get(i) : -3;
    }

    int gain(int node, int corner) {
        if (node < 0 || node > 4 || !corner(corner)) return -99;
        if (k.feed == 20) return -98;
        Kept higher = k.copy();
        higher.feed++;
        return levels(higher, goesOf(higher, corner)[0])[node] - levels(k, goesOf(k, corner)[0])[node];
    }

    // ---- wishes

    int feed(long eight, int n) {
        if (n < 1 || n > 8) return -1;
        if (tape.length() + n > 220) return -2;
        for (int i = 0; i < n; i++) tape.append((char) (eight >> 8 * i & 255));
        return tape.length();
    }

    int read() {
        String text = tape.toString();
        tape.setLength(0);
        List<List<String>> wishes = new ArrayList<>();
        int fault = fault(text, wishes);
        if (fault >= 0) return -100 - fault;
        k.wishes = wishes;
        return wishes.size();
    }

    /**
     * A row of what may come next, without a grammar's recursion: the place of the FAULT, or -1. What begins with # is
     * a sort of things; no TEXT can spell it, as a # is always a thing by itself.
     */
    static int fault(String text, List<List<String>> wishes) {
        String may = "wish #end";
        int at = 0, open = 0;
        boolean right = false; // behind a SIGN
        while (true) {
            while (at < text.length() && text.charAt(at) == ' ') at++;
            int to = at + 1;
            String token, sort;
            if (at == text.length()) {
                token = sort = "#end";
            } else {
                char c = text.charAt(at);
                boolean letter = c >= 'a' && c <= 'z', digit = c >= '0' && c <= '9';
                while (to < text.length() && (letter && text.charAt(to) >= 'a' && text.charAt(to) <= 'z'
                    || digit && text.charAt(to) >= '0' && text.charAt(to) <= '9')) to++;
                token = sort = text.substring(at, to);
                if (digit) sort = token.length() > 3 ? "#long" : "#N";
            }
            if (sort.equals("#N") && may.equals("#K")) {
                if (Integer.parseInt(token) > 4) return at;
                sort = "#K";
            } else if (sort.equals("#N") && may.equals("#P")) {
                if (Integer.parseInt(token) > 9) return at;
                sort = "#P";
            }
            if (!Arrays.asList(may.split(" ")).contains(sort)) return at;
            if (sort.equals("#end")) return -1;
            if (sort.equals("wish") && wishes.size() == 8) return at;
            if (sort.equals("wish")) wishes.add(new ArrayList<>());
            else wishes.get(wishes.size() - 1).add(token);
            String one = "not ( #N node flow pace ring feed", value = "#N node flow pace ring feed";
            if (sort.equals("(") && open == 4) return at;
            if (sort.equals("(")) open++;
            if (sort.equals(")")) open--;
            if (sort.equals("<") || sort.equals("=") || sort.equals(">")) right = true;
            if (sort.equals("or") || sort.equals("and") || sort.equals("wish")) right = false;
            String behind = "or and " + (open > 0 ? ")" : ";");
            switch (sort) {
                case "wish": case "or": case "and": case "not": case "(": may = one; break;
                case "<": case "=": case ">": case "+": may = value; break;
                case "node": may = "#K"; break;
                case "flow": may = "#P"; break;
                case ")": may = behind; break;
                case ";": may = "wish #end"; break;
                default: may = right ? "+ " + behind : "+ < = >";
            }
            at = to;
        }
    }

    /** Reads a COND off its words, and tells whether it holds. */
    static final class Holder {
        final Kept k;
        final List<String> words;
        final int corner;
        final int[] goes;
        int at = 0;

        Holder(Kept k, List<String> words, int corner) {
            this.k = k;
            this.words = words;
            this.corner = corner;
            goes = goesOf(k, corner);
        }

        boolean next(String word) {
            if (!words.get(at).equals(word)) return false;
            at++;
            return true;
        }

        boolean cond() {
            boolean holds = all();
            while (next("or")) holds = all() | holds;
            return holds;
        }

        boolean all() {
            boolean holds = one();
            while (next("and")) holds = one() & holds;
            return holds;
        }

        boolean one() {
            if (next("not")) return !one();
            if (next("(")) {
                boolean holds = cond();
                at++;
                return holds;
            }
            int left = sum();
            String sign = words.get(at++);
            int right = sum();
            return sign.equals("<") ? left < right : sign.equals("=") ? left == right : left > right;
        }

        int sum() {
            int sum = value();
            while (next("+")) sum += value();
            return sum;
        }

        int value() {
            String word = words.get(at++);
            switch (word) {
                case "node": return levels(k, goes[0])[Integer.parseInt(words.get(at++))];
                case "flow": {
                    int p = Integer.parseInt(words.get(at++));
                    return p < k.parts.size() ? flowOf(k, p, goes[0], corner) : 0;
                }
                case "pace": return goes[1];
                case "ring": return goes[2];
                case "feed": return k.feed;
                default: return Integer.parseInt(word);
            }
        }
    }

    static int missedOf(Kept k) {
        int bits = 0;
        for (int w = 0; w < k.wishes.size(); w++) if (worstOf(k, w) >= 0) bits |= 1 << w;
        return bits;
    }

    static int worstOf(Kept k, int wish) {
        for (int c = 0; c < 9; c++) if (!new Holder(k, k.wishes.get(wish), c).cond()) return c;
        return -1;
    }

    int missed() {
        return missedOf(k);
    }

    int worst(int wish) {
        if (wish < 0 || wish >= k.wishes.size()) return -1;
        int c = worstOf(k, wish);
        return c < 0 ? -3 : c;
    }

    int holds(int corner) {
        if (!corner(corner)) return -1;
        int bits = 0;
        for (int w = 0; w < k.wishes.size(); w++) if (new Holder(k, k.wishes.get(w), corner).cond()) bits |= 1 << w;
        return bits;
    }

    // ---- sizing, breaks, changes

    List<Integer> openOnes() {
        List<Integer> open = new ArrayList<>();
        for (int i = 0; i < k.parts.size(); i++) if (k.parts.get(i).to > 0) open.add(i);
        return open;
    }

    int open(int part, int from, int to) {
        if (!has(part)) return -1;
        P p = k.parts.get(part);
        if (to == 0) {
            p.to = 0;
            return openOnes().size();
        }
        if (from < 1 || from > 9 || to < 1 || to > 9 || from > to || to - from + 1 > 4) return -1;
        if (p.to == 0 && openOnes().size() == 4) return -2;
        p.from = from;
        p.to = to;
        return openOnes().size();
    }

    /** The row of SIZES, or null. */
    int[] bestRow() {
        int[][] best = {null};
        List<Integer> open = openOnes();
        tryRows(k.copy(), open, new int[open.size()], 0, best);
        return best[0];
    }

    static int sumOf(int[] row) {
        return Arrays.stream(row).sum();
    }

    static void tryRows(Kept trial, List<Integer> open, int[] row, int i, int[][] best) {
        if (i == row.length) {
            if ((best[0] == null || sumOf(row) < sumOf(best[0])) && missedOf(trial) == 0) best[0] = row.clone();
            return;
        }
        P p = trial.parts.get(open.get(i));
        for (int s = p.from; s <= p.to; s++) {
            p.size = s;
            row[i] = s;
            tryRows(trial, open, row, i + 1, best);
        }
    }

    int sizing(int what) {
        if (what < -1 || what >= openOnes().size()) return -1;
        int[] row = bestRow();
        if (row == null) return -3;
        return what < 0 ? sumOf(row) : row[what];
    }

    int prove() {
        int[] row = bestRow();
        if (row == null) return -3;
        rows.clear();
        for (int i = 0; i < row.length; i++) rows.add(new int[] {openOnes().get(i), row[i]});
        return rows.size();
    }

    int row(int i, int what) {
        return i < 0 || i >= rows.size() || what < 0 || what > 1 ? -9 : rows.get(i)[what];
    }

    int alterRow(int i, int what, int v) {
        if (i < 0 || i >= rows.size() || what < 0 || what > 1) return -9;
        int was = rows.get(i)[what];
        rows.get(i)[what] = v;
        return was;
    }

    int judge() {
        List<Integer> open = openOnes();
        Kept trial = k.copy();
        for (int i = 0; i < rows.size(); i++) {
            int[] row = rows.get(i);
            if (i >= open.size() || open.get(i) != row[0]) return i + 1;
            P p = trial.parts.get(row[0]);
            if (row[1] < p.from || row[1] > p.to) return i + 1;
            p.size = row[1];
        }
        if (rows.size() < open.size()) return 11;
        int missed = missedOf(trial);
        for (int w = 0; w < 8; w++) if ((missed >> w & 1) == 1) return 20 + w;
        return 0;
    }

    int far(int part, boolean up) {
        if (!has(part)) return -1;
        if (missedOf(k) != 0) return -5;
        Kept trial = k.copy();
        P p = trial.parts.get(part);
        int by = 0;
        while (true) {
            p.size += up ? 1 : -1;
            if (p.size < 1 || p.size > 9 || missedOf(trial) != 0) return by;
            by++;
        }
    }

    int falls(int part, int how) {
        if (!has(part) || how < 1 || how > 2) return -1;
        Kept whole = k.copy(), broken = k.copy();
        whole.parts.get(part).broken = 0;
        broken.parts.get(part).broken = how;
        return ~missedOf(whole) & missedOf(broken);
    }

    int change(int part, int what) {
        if (!has(part) || what < 0 || what > 2) return -1;
        if (k.changes.size() == 6) return -2;
        k.changes.add(new int[] {part, what});
        return k.changes.size() - 1;
    }

    int help() {
        int best = -3;
        for (int set = 0; set < 1 << k.changes.size(); set++) {
            if (best >= 0 && Integer.bitCount(best) <= Integer.bitCount(set)) continue;
            Kept trial = k.copy();
            for (int i = 0; i < k.changes.size(); i++) {
                if ((set >> i & 1) == 0) continue;
                P p = trial.parts.get(k.changes.get(i)[0]);
                switch (k.changes.get(i)[1]) {
                    case 0: p.broken = 1; break;
                    case 1: { int a = p.a; p.a = p.b; p.b = a; break; }
                    default: p.size = 10 - p.size;
                }
            }
            if (missedOf(trial) == 0) best = set;
        }
        return best;
    }

    int measured(int node, int level) {
        if (node < 2 || node > 4 || level < -1 || level > 20) return -9;
        int was = k.measured[node - 2];
        k.measured[node - 2] = level;
        return was;
    }

    static boolean asMeasured(Kept k) {
        int[] l = levels(k, goesOf(k, 4)[0]);
        for (int n = 2; n <= 4; n++) if (k.measured[n - 2] != -1 && k.measured[n - 2] != l[n]) return false;
        return true;
    }

    static boolean fits(Kept trial, int set) {
        if (set == 0) return asMeasured(trial);
        int i = Integer.numberOfTrailingZeros(set);
        P p = trial.parts.get(i);
        int was = p.size;
        boolean fits = false;
        for (p.size = 1; p.size <= 9 && !fits; p.size++) fits = fits(trial, set & ~(1 << i));
        p.size = was;
        return fits;
    }

    int which() {
        for (int few = 0; few <= 2; few++) {
            for (int set = 0; set < 1 << k.parts.size(); set++) {
                if (Integer.bitCount(set) == few && fits(k.copy(), set)) return set;
            }
        }
        return -3;
    }

    // ---- the host

    int sheet(int sheet, int sort, int n) {
        if (sheet < 0 || sheet > 3 || sort < -1 || sort > 3 || sort >= 0 && n > 40) return -1;
        if (sort >= 0 && n < 0) return -14;
        sheets[sheet] = sort == -1 ? null : sort == 0 ? new byte[n] : sort == 1 ? new short[n] : sort == 2 ? new int[n] : new long[n];
        return 1;
    }

    static int lengthOf(Object row) {
        return java.lang.reflect.Array.getLength(row);
    }

    static int sortOf(Object row) {
        return row instanceof byte[] ? 0 : row instanceof short[] ? 1 : row instanceof int[] ? 2 : 3;
    }

    int put(int sheet, int i, int v) {
        if (sheet < 0 || sheet > 3) return -1;
        Object row = sheets[sheet];
        if (row == null) return -11;
        if (i < 0 || i >= lengthOf(row)) return -12;
        if (row instanceof byte[]) ((byte[]) row)[i] = (byte) v;
        if (row instanceof short[]) ((short[]) row)[i] = (short) v;
        if (row instanceof int[]) ((int[]) row)[i] = v;
        if (row instanceof long[]) ((long[]) row)[i] = v;
        return 1;
    }

    int item(int sheet, int sort, int i) {
        if (sheet < 0 || sheet > 3 || sort < 0 || sort > 3) return -1;
        Object row = sheets[sheet];
        if (row != null && sortOf(row) != sort) return -13;
        if (row == null) return -11;
        if (i < 0 || i >= lengthOf(row)) return -12;
        return (int) java.lang.reflect.Array.getLong(row, i);
    }

    int sizes(int part, int sheet, int i, int n) {
        if (sheet < 0 || sheet > 3 || !has(part) || n < 0 || n > 10) return -1;
        Object row = sheets[sheet];
        if (row != null && sortOf(row) != 1) return -13;
        if (row == null) return -11;
        int came = 0;
        for (int at = 0; at < n; at++) {
            long place = (long) i + at;
            if (place < 0 || place >= lengthOf(row)) return -12;
            int v = ((short[]) row)[(int) place];
            if (v < 1 || v > 9 || !has(part + at)) continue;
            k.parts.get(part + at).size = v;
            came++;
        }
        return came;
    }

    int shelf(int shelf, int what, int n) {
        if (shelf < 0 || shelf > 3 || what < 0 || what > 2) return -1;
        if (what == 0 && !has(n) || what == 1 && (n < 0 || n > 3)) return -1;
        shelves[shelf] = what == 0 ? Integer.valueOf(n) : what == 1 ? sheets[n] : null;
        return 1;
    }

    Object held(int shelf) {
        Object o = shelves[shelf];
        if (!(o instanceof Integer)) return o;
        int n = (Integer) o;
        if (!has(n)) return null;
        P p = k.parts.get(n);
        Thing t = p.broken > 0 ? new BrokenThing() : p.kind == 1 ? new Bridge() : p.kind == 2 ? new Valve()
            : p.kind == 3 ? new Pair() : p.kind == 4 ? new Store() : new Source();
        t.n = n;
        t.a = p.size;
        t.trace = trace;
        return t;
    }

    int taken(int shelf, int as) {
        if (shelf < 0 || shelf > 3 || as < 0 || as > 6 && as < 10 || as > 13) return -1;
        Object o = held(shelf);
        if (o == null) return -11;
        if (!(o instanceof Thing)) return as >= 10 && sortOf(o) == as - 10 ? lengthOf(o) : -13;
        Class<?>[] kinds = {Thing.class, Bridge.class, Valve.class, Pair.class, Store.class, Source.class, BrokenThing.class};
        return as <= 6 && kinds[as].isInstance(o) ? ((Thing) o).n : -13;
    }

    int act(int shelf, int act, int x) {
        trace.clear();
        if (shelf < 0 || shelf > 3 || act < 0 || act > 3 || !(held(shelf) instanceof Thing)) return 0;
        Thing t = (Thing) held(shelf);
        try {
            return act == 0 ? t.flows(x) : act == 1 ? t.rests(x) : act == 2 ? t.parts(x) : t.errs(x);
        } catch (ArithmeticException e) {
            return -15;
        }
    }

    static class Thing {
        int n, a;
        List<Integer> trace;

        void ran(int body) { trace.add(body); }
        int flows(int x) { ran(10); return x + a; }
        int rests(int x) { ran(11); return flows(x) * 2; }
        int parts(int x) { ran(12); return x / (a - n); }
        int errs(int x) { ran(13); return rests(x) ^ n; }
    }

    static class Bridge extends Thing {
        int flows(int x) { ran(20); return super.flows(x) - 3; }
    }

    static class Valve extends Bridge {
        int rests(int x) { ran(30); return super.rests(x) + flows(2); }
        int errs(int x) { ran(31); return super.errs(x) * 5; }
    }

    static class Pair extends Valve {
        int flows(int x) { ran(40); return super.flows(x) ^ a; }
        int parts(int x) { ran(41); return super.parts(x - 1); }
    }

    static class Store extends Thing {
        int rests(int x) { ran(50); return 0 - super.rests(x); }
    }

    static class Source extends Thing {
        int errs(int x) { ran(60); return super.errs(x) + parts(n + 1); }
    }

    static class BrokenThing extends Thing {
        int flows(int x) { ran(70); return super.flows(x) * 7; }
    }

    int trace(int i) {
        return i >= 0 && i < Math.min(30, trace.size()) ? trace.get(i) : -3;
    }

    int many(int what) {
        switch (what) {
            case 0: return k.parts.size();
            case 1: return k.tables.size();
            case 2: return k.wishes.size();
            case 3: return openOnes().size();
            case 4: return k.changes.size();
            case 5: return rows.size();
            case 6: return tape.length();
            case 7: return Math.min(30, trace.size());
            case 8: return k.feed;
            case 9: return k.start;
            case 10: return (int) k.parts.stream().filter(p -> p.broken > 0).count();
            default: return -1;
        }
    }

    int keep() {
        latest = k.copy();
        return 1;
    }

    int again() {
        if (latest == null) return -3;
        k = latest.copy();
        return 1;
    }
}
