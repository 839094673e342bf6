import java.io.IOException;
import java.lang.reflect.InvocationTargetException;
import java.net.URL;
import java.net.URLClassLoader;
import java.nio.charset.StandardCharsets;
import java.nio.file.Files;
import java.nio.file.Path;
import java.util.ArrayList;
import java.util.LinkedHashMap;
import java.util.List;
import java.util.Map;
import java.util.regex.Matcher;
import java.util.regex.Pattern;

/** Whether README.md says what the class answers, and of each call what the document says. */
public final class ReadmeTest {
    private static final Pattern BLOCK = Pattern.compile("(?ms)^```java\n(.*?)^```$");
    private static final Pattern ASKED = Pattern.compile("\\s*(\\w.*);\\s*//\\s*(-?\\d+)\\b.*");
    private static final Pattern FACE = Pattern.compile("(?m)^    public (?:int|long) (\\w+)\\((.*?)\\);$");
    private static final Pattern ROW = Pattern.compile("(?m)^\\| `(\\w+)\\((.*?)\\)` \\| (.*) \\|$");
    private static final Pattern PROMISE = Pattern.compile("(?m)^## Promise \\d+: (\\w+)\n\n`[^`]*`: (.*)$");
    private static final Pattern CODE = Pattern.compile("(?<![\\w-])-\\d+\\b|\\bNONE\\b");
    private static int wrong = 0;
    private static int asked = 0;

    private static void fail(String what) {
        wrong++;
        System.out.println(what);
    }

    public static void due(String call, long got, long want) {
        if (got != want) {
            fail("README.md: " + call + " answered " + got + ", there stands " + want);
        }
    }

    public static void main(String[] args) throws IOException, InterruptedException, ReflectiveOperationException {
        String page = Files.readString(Path.of("README.md"), StandardCharsets.UTF_8);
        String document = Files.readString(Path.of("../shared/DOC.md"), StandardCharsets.UTF_8);
        runExamples(page);
        compareCalls(page, document);
        for (int code = -2; code >= -7; code--) {
            if (!page.contains("\n| " + code + " | ")) {
                fail("README.md doesn't tell the code " + code);
            }
        }
        System.out.println(asked + " answers of README.md: " + (wrong == 0 ? "all hold" : wrong + " faults"));
        if (wrong != 0) {
            System.exit(1);
        }
    }

    // ---- the examples

    private static void runExamples(String page) throws IOException, InterruptedException, ReflectiveOperationException {
        StringBuilder members = new StringBuilder();
        StringBuilder steps = new StringBuilder();
        for (Matcher block = BLOCK.matcher(page); block.find(); ) {
            if (block.group(1).startsWith("static ")) {
                members.append(block.group(1));
            } else {
                block.group(1).lines().forEach(line -> steps.append(step(line)).append('\n'));
            }
        }
        if (asked == 0) {
            fail("README.md has no example");
        }
        run("public final class ReadmeExample {\n" + members + "public static void run() {\n" + steps + "}\n}\n");
    }

    private static String step(String line) {
        Matcher said = ASKED.matcher(line);
        if (said.matches()) {
            asked++;
            String call = said.group(1).replace("\\", "\\\\").replace("\"", "\\\"");
            return "ReadmeTest.due(\"" + call + "\", " + said.group(1) + ", " + said.group(2) + "L);";
        }
        if (!line.isBlank() && !line.contains("= new JarGuess();")) {
            fail("README.md doesn't say what is answered to " + line);
        }
        return line;
    }

    private static void run(String source) throws IOException, InterruptedException, ReflectiveOperationException {
        Path made = Files.createTempDirectory("readme");
        Path file = made.resolve("ReadmeExample.java");
        Path compiled = made.resolve("ReadmeExample.class");
        try {
            Files.writeString(file, source);
            if (!compiles(file, made)) {
                fail("the Java of README.md does not compile");
                return;
            }
            try (URLClassLoader loader = new URLClassLoader(new URL[] {made.toUri().toURL()})) {
                loader.loadClass("ReadmeExample").getMethod("run").invoke(null);
            }
        } catch (InvocationTargetException e) {
            fail("the Java of README.md threw " + e.getCause());
        } finally {
            Files.deleteIfExists(compiled);
            Files.deleteIfExists(file);
            Files.deleteIfExists(made);
        }
    }

    private static boolean compiles(Path file, Path into) throws IOException, InterruptedException {
        String classes = System.getProperty("java.class.path");
        return new ProcessBuilder("javac", "-encoding", "UTF-8", "-cp", classes, "-d", into.toString(), file.toString())
                .inheritIO().start().waitFor() == 0;
    }

    // ---- the tables of calls

    private static void compareCalls(String page, String document) {
        Map<String, String> parameters = new LinkedHashMap<>();
        Map<String, List<String>> codes = new LinkedHashMap<>();
        for (Matcher row = ROW.matcher(page); row.find(); ) {
            if (parameters.put(row.group(1), row.group(2)) != null) {
                fail("README.md tells " + row.group(1) + " twice");
            }
            codes.put(row.group(1), codesOf(row.group(3)));
        }
        int calls = 0;
        for (Matcher face = FACE.matcher(document); face.find(); calls++) {
            String names = face.group(2).replaceAll("\\b(int|long|boolean) ", "");
            if (!names.equals(parameters.get(face.group(1)))) {
                fail("README.md doesn't tell " + face.group(1) + "(" + names + ")");
            }
        }
        if (calls != parameters.size()) {
            fail("README.md tells " + parameters.size() + " calls, the document " + calls);
        }
        for (Matcher promise = PROMISE.matcher(document); promise.find(); calls--) {
            List<String> due = codesOf(promise.group(2));
            if (!due.equals(codes.get(promise.group(1)))) {
                fail("README.md has codes " + codes.get(promise.group(1)) + " for " + promise.group(1) + ", the document " + due);
            }
        }
        if (calls != 0) {
            fail("the codes of " + calls + " calls were not compared");
        }
    }

    /** The codes in their order, NONE last, since it is looked at behind all of them. */
    private static List<String> codesOf(String words) {
        List<String> codes = new ArrayList<>();
        boolean none = false;
        for (Matcher code = CODE.matcher(words); code.find(); ) {
            if (code.group().equals("NONE")) {
                none = true;
            } else {
                codes.add(code.group());
            }
        }
        if (none) {
            codes.add("NONE");
        }
        return codes;
    }
}
