import java.io.ByteArrayOutputStream;
import java.io.PrintStream;
import java.net.URL;
import java.net.URLClassLoader;
import java.nio.charset.StandardCharsets;
import java.nio.file.Files;
import java.nio.file.Path;
import java.util.Map;
import java.util.Set;
import java.util.TreeMap;
import java.util.TreeSet;
import java.util.regex.Matcher;
import java.util.regex.Pattern;
import javax.tools.ToolProvider;

/** Whether what README.md tells of the class is so. Arguments: README.md and the document. */
public final class ReadmeTest {
    private static final int CALLS = 54;
    private static final Pattern PROMISE =
        Pattern.compile("## Promise \\d+: \\w+\\s+`\\w+ (\\w+\\([^`]*\\))`: ([^#]*)");
    private static final Pattern ROW =
        Pattern.compile("(?m)^\\| `(\\w+\\([^`]*\\))` \\| ([^|]+) \\| ([^|]*)\\| ([^|]*)\\|$");

    private static int passed;
    private static int failed;

    private final String readme;
    private final Map<String, String> promises = new TreeMap<>();

    private ReadmeTest(String readme, String document) {
        this.readme = readme;
        Matcher found = PROMISE.matcher(document);
        while (found.find()) {
            promises.put(found.group(1).replaceAll("int ", ""), found.group(2));
        }
    }

    public static void main(String[] args) throws Exception {
        ReadmeTest test = new ReadmeTest(Files.readString(Path.of(args[0])), Files.readString(Path.of(args[1])));
        test.examplePrints();
        test.tablesHaveEachCall();
        test.tablesHaveEachRefusal();
        test.whatNeverAnswersNone();
        System.out.println("ReadmeTest: " + passed + " passed, " + failed + " failed");
        if (failed > 0) {
            System.exit(1);
        }
    }

    private static void is(String what, Object got, Object due) {
        if (got.equals(due)) {
            passed++;
        } else {
            failed++;
            System.out.println(what + " in README.md: " + got + ", due is " + due);
        }
    }

    /** What stands between ``` of a kind. */
    private String block(String kind) {
        String start = "```" + kind + "\n";
        int from = readme.indexOf(start) + start.length();
        return readme.substring(from, readme.indexOf("```", from));
    }

    private void examplePrints() throws Exception {
        Path folder = Files.createTempDirectory("readme");
        Path source = Files.writeString(folder.resolve("Example.java"), block("java"));
        Path compiled = folder.resolve("Example.class");
        PrintStream out = System.out;
        ByteArrayOutputStream printed = new ByteArrayOutputStream();
        try (URLClassLoader loader = new URLClassLoader(new URL[] {folder.toUri().toURL()})) {
            int errors = ToolProvider.getSystemJavaCompiler().run(null, null, null, "-cp",
                System.getProperty("java.class.path"), "-d", folder.toString(), source.toString());
            is("errors of the example", errors, 0);
            System.setOut(new PrintStream(printed, true, StandardCharsets.UTF_8));
            loader.loadClass("Example").getMethod("main", String[].class).invoke(null, (Object) new String[0]);
        } finally {
            System.setOut(out);
            Files.deleteIfExists(compiled);
            Files.deleteIfExists(source);
            Files.deleteIfExists(folder);
        }
        is("what the example prints", block("text"), printed.toString(StandardCharsets.UTF_8).replace("\r\n", "\n"));
    }

    private void tablesHaveEachCall() {
        Set<String> told = new TreeSet<>();
        Matcher rows = ROW.matcher(readme);
        while (rows.find()) {
            told.add(rows.group(1));
        }
        is("how many promises of calls there are", promises.size(), CALLS);
        is("the calls", told, promises.keySet());
    }

    private void tablesHaveEachRefusal() {
        Set<String> told = new TreeSet<>();
        Set<String> due = new TreeSet<>();
        Matcher rows = ROW.matcher(readme);
        while (rows.find()) {
            for (int column = 3; column <= 4; column++) {
                if (!rows.group(column).isBlank()) {
                    told.add(rows.group(1) + " -" + (column - 1));
                }
            }
        }
        for (Map.Entry<String, String> promise : promises.entrySet()) {
            for (String refusal : new String[] {"-2", "-3"}) {
                if (promise.getValue().contains(refusal)) {
                    due.add(promise.getKey() + " " + refusal);
                }
            }
        }
        is("the calls that answer -2 or -3", told, due);
    }

    /** digest() apart, which is told in a line of its own. */
    private void whatNeverAnswersNone() {
        Set<String> told = new TreeSet<>();
        int end = readme.indexOf("never answer it");
        Matcher names = Pattern.compile("`(\\w+)`").matcher(readme.substring(readme.lastIndexOf(". ", end), end));
        while (names.find()) {
            told.add(names.group(1));
        }
        Set<String> due = new TreeSet<>();
        for (Map.Entry<String, String> promise : promises.entrySet()) {
            String name = promise.getKey().replaceAll("\\(.*", "");
            if (!promise.getValue().contains("NONE") && !name.equals("digest")) {
                due.add(name);
            }
        }
        is("the calls that never answer NONE", told, due);
    }
}
