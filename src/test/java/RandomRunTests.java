import java.lang.reflect.InvocationTargetException;
import java.lang.reflect.Method;
import java.util.ArrayList;
import java.util.HashMap;
import java.util.List;
import java.util.Map;
import java.util.Random;

/**
 * Runs of 500 calls whose numbers are drawn from seeds that stay the same, on SizedParts and on
 * PlainSizedParts; every answer must be the same. Arguments: the first seed, and how many.
 */
public final class RandomRunTests {
    private static final int CALLS = 500;
    private static final String[] DEAR = {"rests", "restAt", "sizing", "prove", "which", "help"};
    private static final String[] NAMES = {
        "table", "part", "partOf", "size", "breaks", "drop", "feedAt", "start", "flow", "tick", "goes", "rests", "restAt",
        "gain", "feed", "read", "missed", "worst", "holds", "open", "sizing", "prove", "row", "alterRow", "judge", "far",
        "falls", "change", "help", "measured", "which", "sheet", "put", "item", "sizes", "shelf", "taken", "act", "trace",
        "many", "keep", "again"};
    /** Things of a TEXT, and some that only look like one. */
    private static final String[] THINGS = {
        " wish ", " or ", " and ", " not ", " node ", " flow ", " pace ", " ring ", " feed ", " 0 ", " 9 ", " 12 ", " 1234 ", "(", ")", " end ",
        " number ", " N ", " K ", " P ", "#N", "wish"};

    private final Random random;
    private final long seed;
    private final SizedParts tried = new SizedParts();
    private final PlainSizedParts plain = new PlainSizedParts();
    private final List<String> told = new ArrayList<>();
    private final Map<String, Method> triedMethods = methods(SizedParts.class);
    private final Map<String, Method> plainMethods = methods(PlainSizedParts.class);
    private int dear = 0;
    private boolean wrong = false;

    private RandomRunTests(long seed) {
        this.seed = seed;
        random = new Random(seed);
    }

    private static Map<String, Method> methods(Class<?> c) {
        Map<String, Method> found = new HashMap<>();
        for (Method m : c.getDeclaredMethods()) {
            for (String name : NAMES) if (m.getName().equals(name)) found.put(name, m);
        }
        return found;
    }

    public static void main(String[] args) throws Exception {
        long first = args.length > 0 ? Long.parseLong(args[0]) : 1;
        long many = args.length > 1 ? Long.parseLong(args[1]) : 120;
        int passed = 0, failed = 0;
        Map<String, Integer> answers = new HashMap<>();
        for (long seed = first; seed < first + many; seed++) {
            RandomRunTests run = new RandomRunTests(seed);
            run.go(answers);
            if (run.wrong) failed++;
            else passed++;
        }
        if (args.length > 2) answers.forEach((a, n) -> System.out.println(a + ": " + n));
        System.out.println(passed + " passed, " + failed + " failed");
        if (failed > 0) System.exit(1);
    }

    private void go(Map<String, Integer> answers) throws Exception {
        layOut();
        while (told.size() < CALLS && !wrong) {
            String name = NAMES[random.nextInt(NAMES.length)];
            if (name.equals("drop") && random.nextInt(4) > 0) continue;
            if (name.equals("again") && random.nextInt(3) > 0) continue;
            if (name.equals("feed") || name.equals("read")) {
                if (random.nextInt(3) == 0) tellWishes();
                else if (random.nextInt(4) == 0) call(name, args(name));
                continue;
            }
            if (name.equals("sizes") && random.nextInt(4) == 0) laySizes();
            if (name.equals("measured") && random.nextInt(3) == 0) measure();
            if (name.equals("sheet") && random.nextInt(3) > 0) continue;
            if (List.of(DEAR).contains(name) && ++dear > 14) continue;
            int answer = call(name, args(name));
            answers.merge(name + " " + (answer < 0 ? String.valueOf(answer) : answer == 0 ? "0" : "+"), 1, Integer::sum);
        }
    }

    private int call(String name, Object... args) throws Exception {
        if (told.size() >= CALLS || wrong) return 0;
        StringBuilder row = new StringBuilder(name);
        for (Object a : args) row.append(' ').append(a);
        told.add(row.toString());
        int due = (Integer) invoke(plainMethods.get(name), plain, args);
        int got = (Integer) invoke(triedMethods.get(name), tried, args);
        if (due != got) {
            wrong = true;
            System.out.println("seed " + seed + ", call " + told.size() + ": " + row + " answered " + got + ", due is " + due);
        }
        return got;
    }

    private static Object invoke(Method m, Object on, Object[] args) throws Exception {
        try {
            return m.invoke(on, args);
        } catch (InvocationTargetException e) {
            throw new IllegalStateException(m.getDeclaringClass() + "." + m.getName(), e.getCause());
        }
    }

    /** Tables and parts, so that most of the calls have something to tell of. */
    private void layOut() throws Exception {
        int tables = 1 + random.nextInt(3);
        for (int t = 0; t < tables; t++) layTable();
        int parts = random.nextInt(11);
        for (int p = 0; p < 3 * parts && plain.many(0) < parts; p++) call("part", args("part"));
        call("start", random.nextInt(9261));
        for (int i = 0; i < 4; i++) call("shelf", i, 0, random.nextInt(Math.max(1, plain.many(0))));
        for (int i = random.nextInt(4); i > 0; i--) {
            int from = 1 + random.nextInt(6);
            call("open", random.nextInt(Math.max(1, plain.many(0))), from, from + random.nextInt(4));
        }
        for (int i = random.nextInt(4); i > 0; i--) call("change", random.nextInt(Math.max(1, plain.many(0))), random.nextInt(3));
        tellWishes();
        call("keep");
    }

    private void layTable() throws Exception {
        int sheet = random.nextInt(4);
        call("sheet", sheet, 0, 21);
        int slope = random.nextInt(4);
        for (int i = 0; i < 21; i++) {
            int v = slope == 0 ? random.nextInt(31) : slope == 1 ? i : slope == 2 ? i / 2 : Math.min(30, 3 * i);
            call("put", sheet, i, v);
        }
        call("table", sheet);
    }

    private void laySizes() throws Exception {
        int sheet = random.nextInt(4);
        call("sheet", sheet, 1, random.nextInt(12));
        for (int i = 0; i < 10; i++) call("put", sheet, i, random.nextInt(12) - 1);
        call("sizes", aPart(), sheet, upTo(5), upTo(10));
    }

    /** LEVELS that a PART or two of other SIZES would give. */
    private void measure() throws Exception {
        PlainSizedParts.Kept other = plain.k.copy();
        for (int i = random.nextInt(4); i > 0 && !other.parts.isEmpty(); i--) {
            other.parts.get(random.nextInt(other.parts.size())).size = 1 + random.nextInt(9);
        }
        int[] levels = PlainSizedParts.levels(other, PlainSizedParts.goesOf(other, 4)[0]);
        for (int node = 2; node <= 4; node++) call("measured", node, random.nextInt(4) == 0 ? -1 : levels[node]);
        if (++dear <= 14) call("which");
    }

    /** One that holds in a CORNER as all is now, or nearly. */
    private String near() {
        int corner = random.nextInt(9), node = 2 + random.nextInt(3), part = random.nextInt(10);
        int end = plain.goes(corner, 0), by = random.nextInt(3);
        int level = PlainSizedParts.levels(plain.k, end)[node], flow = Math.max(0, plain.flow(part, end, corner));
        switch (random.nextInt(4)) {
            case 0: return "node " + node + " < " + (level + by);
            case 1: return "node " + node + " + " + by + " > " + level;
            case 2: return "flow " + part + " < " + (flow + by);
            default: return "flow " + part + " + " + by + " > " + flow;
        }
    }

    private void tellWishes() throws Exception {
        StringBuilder text = new StringBuilder();
        int wishes = random.nextInt(10) == 0 ? random.nextInt(10) : random.nextInt(4);
        for (int i = 0; i < wishes; i++) {
            text.append("wish ").append(random.nextInt(4) == 0 ? cond(0) : random.nextBoolean() ? easy() : near()).append(blank()).append(';').append(blank());
        }
        for (int i = random.nextInt(3); i > 1 && text.length() > 0; i--) spoil(text);
        for (int at = 0; at < text.length() && at < 220; at += 8) {
            long eight = random.nextLong();
            int n = Math.min(8, text.length() - at);
            for (int i = 0; i < n; i++) eight = eight & ~(255L << 8 * i) | (long) text.charAt(at + i) << 8 * i;
            call("feed", eight, n);
        }
        call("read");
    }

    private void spoil(StringBuilder text) {
        int at = random.nextInt(text.length());
        char c = "wishnode 0123456789()+<>=;;  or and not".charAt(random.nextInt(39));
        if (random.nextInt(20) == 0) c = (char) random.nextInt(256);
        switch (random.nextInt(5)) {
            case 0: text.setCharAt(at, c); break;
            case 1: text.insert(at, c); break;
            case 2: text.deleteCharAt(at); break;
            case 3: text.insert(at, THINGS[random.nextInt(THINGS.length)]); break;
            default: text.setLength(at);
        }
    }

    private String blank() {
        return "   ".substring(random.nextInt(4));
    }

    /** One that has a good chance to be MET. */
    private String easy() {
        switch (random.nextInt(6)) {
            case 0: return "node " + (2 + random.nextInt(3)) + " < " + (10 + random.nextInt(12));
            case 1: return "ring < " + (2 + random.nextInt(4));
            case 2: return "pace < " + random.nextInt(30);
            case 3: return "flow " + random.nextInt(10) + " < " + random.nextInt(300);
            case 4: return "node " + (2 + random.nextInt(3)) + " > " + random.nextInt(4) + " or ring > 1";
            default: return "feed + node 2 > flow " + random.nextInt(4) + " + 1";
        }
    }

    private String cond(int depth) {
        String cond = one(depth);
        while (random.nextInt(3) == 0) cond += blank() + (random.nextBoolean() ? " or " : " and ") + one(depth);
        return cond;
    }

    private String one(int depth) {
        String not = random.nextInt(4) == 0 ? "not " + (random.nextInt(4) == 0 ? "not " : "") : "";
        if (random.nextInt(3) == 0 && depth < 6) return not + "(" + blank() + cond(depth + 1) + ")";
        return not + sum() + blank() + "<=>".charAt(random.nextInt(3)) + blank() + sum();
    }

    private String sum() {
        String sum = value();
        while (random.nextInt(4) == 0) sum += blank() + "+" + blank() + value();
        return sum;
    }

    private String value() {
        switch (random.nextInt(7)) {
            case 0: return String.valueOf(random.nextInt(random.nextInt(5) == 0 ? 1100 : 25));
            case 1: return "node " + random.nextInt(random.nextInt(9) == 0 ? 7 : 5);
            case 2: return "node" + (2 + random.nextInt(3));
            case 3: return "flow " + random.nextInt(random.nextInt(9) == 0 ? 12 : 10);
            case 4: return "pace";
            case 5: return "ring";
            default: return "feed";
        }
    }

    /** Mostly one of 0 to most, now and then a little or far outside. */
    private int upTo(int most) {
        switch (random.nextInt(40)) {
            case 0: return -1;
            case 1: return most + 1;
            case 2: return random.nextInt();
            case 3: return random.nextBoolean() ? Integer.MIN_VALUE : Integer.MAX_VALUE;
            default: return random.nextInt(most + 1);
        }
    }

    private int from(int least, int most) {
        return least + upTo(most - least);
    }

    private int aPart() {
        return upTo(Math.max(0, plain.many(0) - 1));
    }

    private int ends() {
        return random.nextInt(10) == 0 ? upTo(50) : random.nextInt(5) * 10 + random.nextInt(5);
    }

    private int law() {
        return random.nextInt(15) == 0 ? upTo(500) : 100 * random.nextInt(Math.max(1, plain.many(1))) + random.nextInt(60);
    }

    private Object[] args(String name) {
        switch (name) {
            case "table": return new Object[] {upTo(3)};
            case "part": return new Object[] {from(1, 5), ends(), from(1, 9), law(),
                random.nextBoolean() ? random.nextInt(5) : upTo(10 * Math.max(1, plain.many(0)))};
            case "partOf": return new Object[] {aPart(), upTo(8)};
            case "size": return new Object[] {aPart(), from(1, 9)};
            case "breaks": return new Object[] {aPart(), random.nextBoolean() ? 0 : upTo(2)};
            case "feedAt": return new Object[] {upTo(20)};
            case "start": return new Object[] {upTo(9260)};
            case "flow": return new Object[] {aPart(), upTo(9260), upTo(8)};
            case "tick": return new Object[] {upTo(9260), upTo(8)};
            case "goes": return new Object[] {upTo(8), upTo(2)};
            case "rests": return new Object[] {upTo(8)};
            case "restAt": return new Object[] {upTo(8), random.nextBoolean() ? upTo(30) : upTo(9261)};
            case "gain": return new Object[] {upTo(4), upTo(8)};
            case "feed": return new Object[] {random.nextLong(), from(1, 8)};
            case "worst": return new Object[] {upTo(Math.max(0, plain.many(2) - 1))};
            case "holds": return new Object[] {upTo(8)};
            case "open": {
                int from = from(1, 9);
                return new Object[] {aPart(), from, random.nextInt(4) == 0 ? upTo(9) : from + random.nextInt(4)};
            }
            case "sizing": return new Object[] {from(-1, Math.max(0, plain.many(3) - 1))};
            case "row": return new Object[] {upTo(Math.max(0, plain.many(5) - 1)), upTo(1)};
            case "alterRow": return new Object[] {upTo(Math.max(0, plain.many(5) - 1)), upTo(1), random.nextInt(3) == 0 ? random.nextInt() : upTo(9)};
            case "far": return new Object[] {aPart(), random.nextBoolean()};
            case "falls": return new Object[] {aPart(), from(1, 2)};
            case "change": return new Object[] {aPart(), upTo(2)};
            case "measured": return new Object[] {from(2, 4), from(-1, 20)};
            case "sheet": return new Object[] {upTo(3), from(-1, 3), upTo(40)};
            case "put": return new Object[] {upTo(3), upTo(39), random.nextInt(4) == 0 ? random.nextInt() : upTo(12)};
            case "item": return new Object[] {upTo(3), upTo(3), upTo(39)};
            case "sizes": return new Object[] {aPart(), upTo(3), upTo(12), upTo(10)};
            case "shelf": return new Object[] {upTo(3), upTo(2), random.nextBoolean() ? aPart() : upTo(3)};
            case "taken": return new Object[] {upTo(3), random.nextInt(3) == 0 ? upTo(14) : upTo(6)};
            case "act": return new Object[] {upTo(3), upTo(3), random.nextBoolean() ? upTo(100) : random.nextInt()};
            case "trace": return new Object[] {upTo(12)};
            case "many": return new Object[] {upTo(10)};
            default: return new Object[0];
        }
    }
}
