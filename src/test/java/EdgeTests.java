import java.io.IOException;
import java.lang.reflect.Method;
import java.nio.file.Files;
import java.nio.file.Path;
import java.util.ArrayList;
import java.util.Arrays;
import java.util.Comparator;
import java.util.List;
import java.util.Map;
import java.util.TreeMap;
import java.util.regex.Matcher;
import java.util.regex.Pattern;

/**
 * Runs the tests of boundary cases, each of which tells its promise and the document's words for it; and holds these
 * against the document: a boundary case that it names and that no test tells is a failure, too.
 */
public final class EdgeTests {
    private static final Path DOCUMENT = Path.of("../shared/DOC.md");
    private static final int PROMISES = 43;
    /** By such words the document names a boundary case. */
    private static final Pattern EDGE = Pattern.compile("\\bBAD\\b|\\bFULL\\b|\\bNONE\\b|\\bSTATE:|(?<![\\w-])-\\d+|\\bat most\\b|\\bat least\\b"
        + "|\\babove\\b|\\bmore than\\b|\\blonger\\b|\\bmissing\\b|\\bno such\\b|\\bnone\\b|\\bnothing\\b|\\bnobody\\b|\\bno set\\b|\\bno row\\b"
        + "|\\btoo few\\b|\\bleft out\\b|\\bcut\\b|\\bwrap\\b|\\bnarrowed\\b|\\bat first\\b|\\b\\d+ to \\d+\\b|\\bfirst\\b|\\bthe end\\b|\\bleast\\b"
        + "|\\bfewest\\b|\\blatest\\b|\\bfifth\\b|\\bninth\\b|\\bWithout\\b|\\bwhatever\\b|\\btwice\\b|\\bany more\\b|\\bOpen\\b|\\bShut\\b|\\blowest\\b");
    /** Words of the document that look like a boundary case and aren't one. */
    private static final String[] NONE_OF_THEM = {
        "BAD (-1) there is no such thing, or a number is not as told; FULL (-2); NONE (-3); STATE (-4)",
        "-11 nothing where something is asked, -12 a place outside, -13 a thing of another sort or kind, -14 a size below 0, -15 parted by 0",
        "FLOW of a PART in a STATE and CORNER, from its first NODE to its second one: D: LEVEL of the first less that of the second."};

    private final Map<Integer, String> sections = new TreeMap<>();
    private final Map<Integer, boolean[]> told = new TreeMap<>();
    private int passed = 0, failed = 0;

    public static void main(String[] args) throws Exception {
        EdgeTests tests = new EdgeTests();
        boolean documented = Files.exists(DOCUMENT);
        if (documented) tests.readDocument();
        else System.out.println("there is no " + DOCUMENT + ": the tests' words were not held against it");
        for (Class<?> c : new Class<?>[] {EdgesOfParts.class, EdgesOfTicks.class, EdgesOfWishes.class, EdgesOfSizing.class, EdgesOfHost.class, EdgesOfKept.class}) {
            tests.run(c);
        }
        if (documented) tests.holdAgainstTheDocument();
        System.out.println(tests.passed + " passed, " + tests.failed + " failed");
        if (tests.failed > 0) System.exit(1);
    }

    private void count(boolean right) {
        if (right) passed++;
        else failed++;
    }

    // ---- the tests

    private void run(Class<?> group) throws Exception {
        List<Method> methods = new ArrayList<>();
        for (Method m : group.getDeclaredMethods()) {
            if (m.isAnnotationPresent(Promise.class)) methods.add(m);
        }
        methods.sort(Comparator.comparingInt((Method m) -> m.getAnnotation(Promise.class).n()).thenComparing(Method::getName));
        for (Method m : methods) {
            Promise promise = m.getAnnotation(Promise.class);
            Edges edges = (Edges) group.getDeclaredConstructor().newInstance();
            edges.begin("promise " + promise.n() + ", " + m.getName());
            m.invoke(edges);
            count(edges.passed());
            if (sections.isEmpty()) continue;
            for (String words : promise.says()) count(mark(promise.n(), m.getName(), words));
        }
    }

    // ---- the document

    /** Section 0 is what stands ahead of the promises. */
    private void readDocument() throws IOException {
        String document = Files.readString(DOCUMENT).replaceAll("\\s+", " ");
        int from = 0;
        for (int n = 1; n <= PROMISES + 1; n++) {
            String title = n <= PROMISES ? " ## Promise " + n + ": " : " ## Not promised";
            int to = document.indexOf(title, from);
            if (to < 0) throw new IllegalStateException("the document has no" + title);
            sections.put(n - 1, document.substring(from, to));
            told.put(n - 1, new boolean[to - from]);
            from = to + 1;
        }
    }

    /** Marks words in a promise's section; those that don't stand there are of the terms. */
    private boolean mark(int promise, String test, String words) {
        boolean there = markIn(promise, words) || markIn(0, words);
        if (!there) System.out.println("promise " + promise + ", " + test + ": the document doesn't say '" + words + "'");
        return there;
    }

    private boolean markIn(int section, String words) {
        String text = sections.get(section);
        int at = text.indexOf(words);
        for (int i = at; i >= 0; i = text.indexOf(words, i + 1)) Arrays.fill(told.get(section), i, i + words.length(), true);
        return at >= 0;
    }

    private void holdAgainstTheDocument() {
        for (String words : NONE_OF_THEM) count(mark(0, "NONE_OF_THEM", words));
        for (int section = 0; section <= PROMISES; section++) {
            String text = sections.get(section);
            int at = section == 0 ? text.indexOf("## Terms") : 0;
            Matcher edge = EDGE.matcher(text);
            while (edge.find(at)) {
                boolean is = told.get(section)[edge.start()];
                count(is);
                if (!is) System.out.println("promise " + section + ": no test for '" + around(text, edge.start(), edge.end()) + "'");
                at = edge.end();
            }
        }
    }

    private static String around(String text, int from, int to) {
        return text.substring(Math.max(0, from - 40), from) + "[" + text.substring(from, to) + "]" + text.substring(to, Math.min(text.length(), to + 40));
    }
}
