import java.io.File;
import java.io.IOException;
import java.lang.reflect.Method;
import java.lang.reflect.Modifier;
import java.nio.charset.StandardCharsets;
import java.nio.file.Files;
import java.nio.file.Path;
import java.util.ArrayList;
import java.util.Comparator;
import java.util.List;
import java.util.TreeSet;
import java.util.regex.Matcher;
import java.util.regex.Pattern;

/** README.md: its calls are compiled as they stand there, and made; each answer is the one that it gives. */
public final class ReadmeTests {
    private static final Pattern ANSWERED = Pattern.compile(
            "(hill\\.\\w+\\(.*\\));\\s+// (-?\\d+|true|false|throws NoSuchElementException)"
            + "(?:, the row: (-?\\d+(?:, -?\\d+)*))?(?:: .+)?");
    private static final Pattern UNANSWERED = Pattern.compile(
            "OverTheHill hill = new OverTheHill\\(\\);|tell\\(hill, \"[ -~]*\"\\);");
    private static final Pattern TABLE_ROW = Pattern.compile("\\| `(\\w+)` \\| .+ \\|");

    private ReadmeTests() {
    }

    public static void main(String[] args) throws Exception {
        // .ci/run says where the project is; by hand it is where the test is run.
        Path root = Path.of(System.getProperty("root", "."));
        List<String> lines = Files.readAllLines(root.resolve("README.md"), StandardCharsets.UTF_8);
        theCalls(lines);
        theFace(String.join("\n", lines));
        theTable(lines, root.resolve("src/test/java"));
        Checks.finish("ReadmeTests");
    }

    // ---- the calls

    private static void theCalls(List<String> lines) throws Exception {
        StringBuilder helpers = new StringBuilder();
        StringBuilder calls = new StringBuilder();
        for (List<String> block : blocksOf(lines)) {
            if (block.get(0).startsWith("static ")) {
                helpers.append(String.join("\n", block)).append('\n');
            } else {
                for (String line : block) {
                    calls.append(checked(line)).append('\n');
                }
            }
        }
        run("public final class ReadmeCalls {\n" + helpers + "public static void main(String[] args) {\n" + calls
                + "Checks.finish(\"ReadmeCalls\");\n}\n}\n");
    }

    private static List<List<String>> blocksOf(List<String> lines) {
        List<List<String>> blocks = new ArrayList<>();
        List<String> block = null;
        for (String line : lines) {
            if (line.equals("```java")) {
                block = new ArrayList<>();
            } else if (line.equals("```")) {
                blocks.add(block);
                block = null;
            } else if (block != null) {
                block.add(line);
            }
        }
        Checks.due("blocks of calls", blocks.size() > 5, true);
        return blocks;
    }

    private static String checked(String line) {
        Matcher m = ANSWERED.matcher(line);
        boolean answered = m.matches();
        Checks.due("a call with its answer, a text, or the object: " + line,
                answered || UNANSWERED.matcher(line).matches(), true);
        if (!answered) {
            return line;
        }
        String name = "\"README: " + m.group(1).replace("\"", "'") + "\"";
        if (m.group(2).startsWith("throws")) {
            return "Checks.noSuch(" + name + ", () -> " + m.group(1) + ");";
        }
        String row = m.group(3) == null ? "" : " Checks.rowDue(" + name + ", hill, " + m.group(3) + ");";
        return "Checks.due(" + name + ", " + m.group(1) + ", " + m.group(2) + ");" + row;
    }

    /** In a machine of its own, as a class that is loaded later does not see the tests' own classes. */
    private static void run(String source) throws Exception {
        Path out = Files.createTempDirectory("readme");
        try {
            Path file = out.resolve("ReadmeCalls.java");
            Files.writeString(file, source, StandardCharsets.UTF_8);
            String classes = System.getProperty("java.class.path") + File.pathSeparator + out;
            int compiled = ended("javac", "-cp", classes, "-d", out.toString(), file.toString());
            Checks.due("README's calls are compiled", compiled, 0);
            if (compiled == 0) {
                Checks.due("README's answers are as due", ended("java", "-ea", "-cp", classes, "ReadmeCalls"), 0);
            }
        } finally {
            remove(out);
        }
    }

    private static int ended(String... command) throws Exception {
        return new ProcessBuilder(command).inheritIO().start().waitFor();
    }

    private static void remove(Path folder) throws IOException {
        try (var all = Files.walk(folder)) {
            all.sorted(Comparator.reverseOrder()).map(Path::toFile).forEach(File::delete);
        }
    }

    // ---- what else the page says

    private static void theFace(String page) {
        for (Method m : OverTheHill.class.getDeclaredMethods()) {
            if (Modifier.isPublic(m.getModifiers())) {
                Checks.due("README calls " + m.getName(), page.contains("\nhill." + m.getName() + "("), true);
            }
        }
    }

    private static void theTable(List<String> lines, Path tests) throws IOException {
        TreeSet<String> told = new TreeSet<>();
        for (String line : lines) {
            Matcher m = TABLE_ROW.matcher(line);
            if (m.matches()) {
                told.add(m.group(1));
            }
        }
        TreeSet<String> there = new TreeSet<>();
        try (var files = Files.list(tests)) {
            files.map(f -> f.getFileName().toString()).filter(f -> f.endsWith("Tests.java"))
                    .forEach(f -> there.add(f.substring(0, f.length() - 5)));
        }
        Checks.due("README's table " + told + " has the tests that there are " + there, told.equals(there), true);
    }
}
