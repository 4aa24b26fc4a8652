import java.io.IOException;
import java.io.PrintWriter;
import java.io.StringWriter;
import java.lang.reflect.Field;
import java.net.URL;
import java.net.URLClassLoader;
import java.nio.file.Files;
import java.nio.file.Path;
import java.util.regex.Matcher;
import java.util.regex.Pattern;
import java.util.spi.ToolProvider;

/** The example of README.md compiles, and each answer that it tells is the right one; run in the project's folder. */
public final class ReadmeTests {
    private static final Path README = Path.of("README.md");
    private static final int FEWEST = 20;
    /** A call on a line of its own that is not within a loop, with its answer as the comment's first word. */
    private static final Pattern TOLD = Pattern.compile("(?m)^((?:int \\w+ = )?)(parts\\.\\w+\\(.*\\));( +// (-?\\d+)\\b.*)$");
    private static final Pattern CALL = Pattern.compile("(?m)^(?:int \\w+ = )?parts\\.");

    public static void main(String[] args) throws Exception {
        String example = example(Files.readString(README));
        Matcher told = TOLD.matcher(example);
        int answers = (int) told.results().count(), calls = (int) CALL.matcher(example).results().count();
        int failed = 0;
        if (answers < FEWEST || calls != answers) {
            failed++;
            System.out.println("README.md: " + calls + " calls, of which " + answers + " tell their answer; due are " + FEWEST + " and all");
        }
        int wrong = run(asked(example));
        System.out.println(answers - wrong + " passed, " + (failed + wrong) + " failed");
        if (failed + wrong > 0) System.exit(1);
    }

    private static String example(String readme) {
        int from = readme.indexOf("```java\n"), to = readme.indexOf("\n```\n", Math.max(from, 0));
        if (from < 0 || to < 0) throw new IllegalStateException("README.md has no example");
        return readme.substring(from + 8, to + 1);
    }

    /** A program in which each call is held against the answer that is told behind it. */
    private static String asked(String example) {
        String body = TOLD.matcher(example).replaceAll(m -> Matcher.quoteReplacement(
            m.group(1) + "due(\"" + m.group(2).replace("\\", "\\\\").replace("\"", "\\\"") + "\", " + m.group(2) + ", " + m.group(4) + ");"));
        return "public final class ReadmeExample {\n"
            + "    public static int wrong = 0;\n"
            + "    static int due(String call, int got, int due) {\n"
            + "        if (got != due) {\n"
            + "            wrong++;\n"
            + "            System.out.println(\"README.md: \" + call + \" answered \" + got + \", it tells \" + due);\n"
            + "        }\n"
            + "        return got;\n"
            + "    }\n"
            + "    public static void main(String[] args) {\n" + body + "    }\n}\n";
    }

    private static int run(String program) throws Exception {
        Path folder = Files.createTempDirectory("readme");
        Path source = folder.resolve("ReadmeExample.java");
        try {
            Files.writeString(source, program);
            String classes = Path.of(SizedParts.class.getProtectionDomain().getCodeSource().getLocation().toURI()).toString();
            StringWriter said = new StringWriter();
            PrintWriter writer = new PrintWriter(said);
            ToolProvider javac = ToolProvider.findFirst("javac").orElseThrow();
            if (javac.run(writer, writer, "-d", folder.toString(), "-cp", classes, source.toString()) != 0) {
                throw new IllegalStateException("the example doesn't compile: " + said);
            }
            try (URLClassLoader loader = new URLClassLoader(new URL[] {folder.toUri().toURL()})) {
                Class<?> example = loader.loadClass("ReadmeExample");
                example.getMethod("main", String[].class).invoke(null, (Object) new String[0]);
                Field wrong = example.getField("wrong");
                return wrong.getInt(null);
            }
        } finally {
            clear(folder);
        }
    }

    private static void clear(Path folder) throws IOException {
        try (var files = Files.list(folder)) {
            for (Path file : files.toList()) Files.delete(file);
        }
        Files.delete(folder);
    }
}
