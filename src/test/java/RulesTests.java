import java.io.PrintWriter;
import java.io.StringWriter;
import java.lang.management.ManagementFactory;
import java.lang.reflect.Constructor;
import java.lang.reflect.Field;
import java.lang.reflect.Method;
import java.lang.reflect.Modifier;
import java.nio.charset.StandardCharsets;
import java.nio.file.DirectoryStream;
import java.nio.file.Files;
import java.nio.file.Path;
import java.util.ArrayList;
import java.util.Arrays;
import java.util.List;
import java.util.Map;
import java.util.Set;
import java.util.TreeMap;
import java.util.TreeSet;
import java.util.regex.Matcher;
import java.util.regex.Pattern;
import java.util.spi.ToolProvider;

/** The public face, and those rules of LANGUAGE.md that can be seen from outside; run in the project's folder. */
public final class RulesTests {
    private static final Path SOURCE = Path.of("src/main/java/SizedParts.java");
    private static final String[] FACE = {
        "table(int)", "part(int,int,int,int,int)", "partOf(int,int)", "size(int,int)", "breaks(int,int)", "drop()",
        "feedAt(int)", "start(int)", "flow(int,int,int)", "tick(int,int)", "goes(int,int)", "rests(int)", "restAt(int,int)",
        "gain(int,int)", "feed(long,int)", "read()", "missed()", "worst(int)", "holds(int)", "open(int,int,int)",
        "sizing(int)", "prove()", "row(int,int)", "alterRow(int,int,int)", "judge()", "far(int,boolean)", "falls(int,int)",
        "change(int,int)", "help()", "measured(int,int)", "which()", "sheet(int,int,int)", "put(int,int,int)",
        "item(int,int,int)", "sizes(int,int,int,int)", "shelf(int,int,int)", "taken(int,int)", "act(int,int,int)",
        "trace(int)", "many(int)", "keep()", "again()"};

    private static int passed = 0, failed = 0;

    private static void rule(String what, boolean kept) {
        if (kept) {
            passed++;
        } else {
            failed++;
            System.out.println("not kept: " + what);
        }
    }

    public static void main(String[] args) throws Exception {
        face();
        inside();
        words();
        constructors();
        lengths();
        depths();
        room();
        System.out.println(passed + " passed, " + failed + " failed");
        if (failed > 0) System.exit(1);
    }

    private static void face() throws Exception {
        Class<?> c = SizedParts.class;
        rule("public and final", Modifier.isPublic(c.getModifiers()) && Modifier.isFinal(c.getModifiers()));
        Constructor<?>[] made = c.getDeclaredConstructors();
        rule("one public constructor", made.length == 1 && made[0].getParameterCount() == 0 && Modifier.isPublic(made[0].getModifiers()));
        Set<String> due = new TreeSet<>(Arrays.asList(FACE)), got = new TreeSet<>();
        boolean hidden = true, ints = true;
        for (Method m : c.getDeclaredMethods()) {
            if (m.isSynthetic()) continue;
            if (Modifier.isPublic(m.getModifiers())) {
                got.add(m.getName() + Arrays.toString(m.getParameterTypes()).replace(" ", "").replace('[', '(').replace(']', ')'));
                ints &= m.getReturnType() == int.class && !Modifier.isStatic(m.getModifiers());
            } else {
                hidden &= Modifier.isPrivate(m.getModifiers());
            }
        }
        rule("the methods of the document: " + got, got.equals(due));
        rule("each answers an int", ints);
        Set<String> constants = new TreeSet<>();
        for (Field f : c.getDeclaredFields()) {
            if (Modifier.isPublic(f.getModifiers())) constants.add(f.getName() + f.getInt(null));
            else hidden &= Modifier.isPrivate(f.getModifiers());
        }
        rule("the constants of the document", constants.equals(new TreeSet<>(Arrays.asList("BAD-1", "FULL-2", "NONE-3", "STATE-4"))));
        rule("all else is private", hidden);
    }

    private static void inside() {
        List<Class<?>> classes = new ArrayList<>(Arrays.asList(SizedParts.class.getDeclaredClasses()));
        Set<String> publicNames = new TreeSet<>();
        for (String f : FACE) publicNames.add(f.substring(0, f.indexOf('(')));
        for (Class<?> c : classes) {
            rule(c + " is static and not public", Modifier.isStatic(c.getModifiers())
                && !Modifier.isPublic(c.getModifiers()) && !Modifier.isProtected(c.getModifiers()));
            rule(c + " has no class inside", c.getDeclaredClasses().length == 0);
        }
        classes.add(SizedParts.class);
        rule("twelve classes at most", classes.size() <= 12);
        for (Class<?> c : classes) {
            int fields = 0;
            for (Field f : c.getDeclaredFields()) {
                if (!Modifier.isStatic(f.getModifiers())) fields++;
                else rule(f + " is final", Modifier.isFinal(f.getModifiers()));
            }
            rule(c + " has twenty fields at most", fields <= 20);
            for (Method m : c.getDeclaredMethods()) {
                rule(m + " has seven parameters at most", m.getParameterCount() <= 7);
                rule(m + " bears no public name", Modifier.isPublic(m.getModifiers()) || !publicNames.contains(m.getName()));
            }
        }
    }

    /** The source without comments and texts. */
    private static String bare(String source) {
        return source.replaceAll("(?s)/\\*.*?\\*/", "").replaceAll("//[^\n]*", "").replaceAll("\"[^\"\n]*\"", "\"\"");
    }

    private static void words() throws Exception {
        String source = Files.readString(SOURCE, StandardCharsets.ISO_8859_1);
        boolean plain = true;
        for (int i = 0; i < source.length(); i++) plain &= source.charAt(i) >= 1 && source.charAt(i) <= 127;
        rule("signs 1 to 127", plain);
        String bare = bare(source);
        for (String word : new String[] {"throw", "throws", "try", "catch", "finally", "synchronized", "assert", "package", "protected",
            "volatile", "native", "var", "yield", "Object", "Thread", "System.out", "System.err", "System.nanoTime",
            "System.currentTimeMillis", "Random", "hashCode", "toString", "\\w+Exact", "double", "float"}) {
            rule("no " + word, !Pattern.compile("\\b" + word + "\\b").matcher(bare).find());
        }
        for (String sign : new String[] {"->", "::", "static {", "\"\" +", "+ \"\""}) rule("no " + sign, !bare.contains(sign));
        Matcher imports = Pattern.compile("import ([\\w.*]+);").matcher(bare);
        while (imports.find()) {
            rule("import " + imports.group(1), Arrays.asList("java.util.Arrays", "java.util.ArrayList", "java.util.List").contains(imports.group(1)));
        }
        Matcher calls = Pattern.compile("\\b(System|Math|Integer|Long|Arrays)\\.(\\w+)").matcher(bare);
        Set<String> may = Set.of("System.arraycopy", "Math.min", "Math.max", "Math.abs", "Math.floorDiv", "Math.floorMod",
            "Integer.bitCount", "Integer.numberOfTrailingZeros", "Integer.compare", "Arrays.fill", "Arrays.copyOf", "Arrays.copyOfRange");
        while (calls.find()) rule(calls.group() + " of the library", may.contains(calls.group()));
        // what a method makes is counted: here only fields and constructors make
        Matcher made = Pattern.compile("\n {8,}[^\n]*\\bnew \\w[^\n]*").matcher(bare);
        while (made.find()) {
            String line = made.group().trim();
            rule("made for good: " + line, line.startsWith("final ") || line.startsWith("private ") || line.equals("for (int i = 0; i < MAX_PARTS; i++) parts[i] = new Part();"));
        }
    }

    /** Rule 12: a constructor hands out nothing of the object that it makes, so that none is given anything. */
    private static void constructors() throws Exception {
        String bare = bare(Files.readString(SOURCE, StandardCharsets.ISO_8859_1));
        Matcher made = Pattern.compile("\\bnew \\w+\\(([^)]*)\\)").matcher(bare);
        int many = 0;
        for (; made.find(); many++) rule(made.group() + " is handed nothing", made.group(1).isEmpty());
        rule("objects are made", many > 0);
        rule("no object hands out itself", !Pattern.compile("\\bthis\\b").matcher(bare).find());
    }

    private static void lengths() throws Exception {
        int since = 0, at = 0;
        String name = "";
        for (String line : Files.readAllLines(SOURCE)) {
            at++;
            if (line.matches(" {4,8}(public |private |static )*[\\w\\[\\]]+( \\w+)?\\(.*\\) \\{")) {
                since = at;
                name = line.trim();
            }
            if (line.matches(" {4}( {4})?\\}") && since > 0) {
                rule(name + " has sixty lines at most", at - since <= 60);
                since = 0;
            }
        }
    }

    /** Calls that are no recursion go eight deep at most, the public one among them. */
    private static void depths() throws Exception {
        if (ToolProvider.findFirst("javap").isEmpty()) {
            System.out.println("there is no javap here: how deep calls go was not looked at");
            return;
        }
        Map<String, Set<String>> calls = callGraph();
        for (String f : FACE) {
            String name = "SizedParts." + f.substring(0, f.indexOf('('));
            List<String> deepest = deepest(name, calls, new ArrayList<>(List.of(name)));
            rule(name + " goes eight deep at most: " + deepest, deepest.size() <= 8);
        }
    }

    /** The longest way down on which no method comes twice. */
    private static List<String> deepest(String at, Map<String, Set<String>> calls, List<String> way) {
        List<String> longest = new ArrayList<>(way);
        for (String next : calls.getOrDefault(at, Set.of())) {
            if (way.contains(next)) continue;
            way.add(next);
            List<String> found = deepest(next, calls, way);
            if (found.size() > longest.size()) longest = found;
            way.remove(way.size() - 1);
        }
        return longest;
    }

    /** Which methods of the class and of those inside it call which, as javap tells it. */
    private static Map<String, Set<String>> callGraph() throws Exception {
        Path folder = Path.of(SizedParts.class.getProtectionDomain().getCodeSource().getLocation().toURI());
        List<String> args = new ArrayList<>(List.of("-p", "-c"));
        try (DirectoryStream<Path> files = Files.newDirectoryStream(folder, "SizedParts*.class")) {
            for (Path file : files) {
                String name = file.getFileName().toString();
                if (name.equals("SizedParts.class") || name.startsWith("SizedParts$")) args.add(file.toString());
            }
        }
        StringWriter told = new StringWriter();
        PrintWriter writer = new PrintWriter(told);
        ToolProvider javap = ToolProvider.findFirst("javap").orElseThrow();
        rule("javap tells the calls", javap.run(writer, writer, args.toArray(new String[0])) == 0);
        Pattern classLine = Pattern.compile("^(?:\\w+ )*class ([\\w$]+)"), methodLine = Pattern.compile("^  [\\w$. \\[\\]]*?([\\w$]+)\\(.*\\);$");
        Pattern callLine = Pattern.compile("// Method (?:([\\w$/]+)\\.)?(\\w+):");
        Map<String, Set<String>> calls = new TreeMap<>();
        String inside = "", method = "";
        for (String line : told.toString().split("\\R")) {
            Matcher c = classLine.matcher(line), m = methodLine.matcher(line), call = callLine.matcher(line);
            if (c.find()) {
                inside = c.group(1);
            } else if (m.find()) {
                method = inside + "." + m.group(1);
                calls.put(method, new TreeSet<>());
            } else if (call.find() && (call.group(1) == null || call.group(1).startsWith("SizedParts"))) {
                calls.get(method).add((call.group(1) == null ? inside : call.group(1)) + "." + call.group(2));
            }
        }
        rule("the calls are told: " + calls.size(), calls.size() > 100);
        return calls;
    }

    /** One room for all calls: nothing is made by calls, and little by the constructor. */
    private static void room() {
        com.sun.management.ThreadMXBean threads = (com.sun.management.ThreadMXBean) ManagementFactory.getThreadMXBean();
        long id = Thread.currentThread().getId();
        for (int i = 0; i < 3; i++) everyCall(new SizedParts());
        long before = threads.getThreadAllocatedBytes(id);
        SizedParts x = new SizedParts();
        long made = threads.getThreadAllocatedBytes(id);
        everyCall(x);
        long called = threads.getThreadAllocatedBytes(id);
        rule("the constructor makes less than 32 KiB: " + (made - before), made - before < 32 * 1024);
        rule("calls make nothing: " + (called - made), called - made < 1024);
    }

    private static void everyCall(SizedParts x) {
        x.sheet(0, 0, 21);
        for (int i = 0; i < 21; i++) x.put(0, i, i);
        x.table(0);
        x.part(1, 12, 2, 25, 0);
        x.part(2, 23, 4, 5, 2);
        x.part(3, 34, 4, 5, 12);
        x.part(4, 40, 4, 5, 2);
        x.part(5, 40, 4, 5, 2);
        x.feed(0x31203d2068736977L ^ 0x11L << 56, 8);
        x.feed(';', 1);
        x.read();
        x.feed(0x313d312068736977L, 8);
        x.feed(';', 1);
        x.read();
        for (int p = 0; p < 4; p++) x.open(p, 1, 4);
        for (int p = 0; p < 5; p++) x.change(p, p % 3);
        x.measured(2, 20);
        x.measured(3, 1);
        x.measured(4, 17);
        for (int i = -1; i < 9; i++) {
            x.partOf(i, i); x.size(i, i); x.breaks(i, i); x.feedAt(i); x.start(i); x.flow(i, i, i); x.tick(i, i); x.goes(i, i);
            x.rests(i); x.restAt(i, i); x.gain(i, i); x.missed(); x.worst(i); x.holds(i); x.sizing(i); x.prove(); x.row(i, 1);
            x.alterRow(i, 1, i); x.judge(); x.far(i, true); x.falls(i, 1); x.help(); x.which(); x.item(0, 0, i);
            x.sizes(i, 0, i, i); x.shelf(i, 0, i); x.taken(i, i); x.act(i, i, i); x.trace(i); x.many(i); x.keep(); x.again();
        }
        x.drop();
    }
}
