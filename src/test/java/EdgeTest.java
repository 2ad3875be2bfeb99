import java.lang.reflect.InvocationTargetException;
import java.lang.reflect.Method;
import java.nio.file.Files;
import java.nio.file.Path;
import java.util.ArrayList;
import java.util.Arrays;
import java.util.Comparator;
import java.util.List;

/**
 * Runs the tests of the edges: each quotes the words of the document that it tests. Asked, too, is whether the
 * document has these words, and whether each piece of a promise that tells an edge is quoted. Argument: the document.
 */
public final class EdgeTest {
    private static final int PROMISES = 55;
    private static final List<Class<?>> TESTS =
        List.of(EdgesOfTerms.class, EdgesOfTexts.class, EdgesOfActs.class, EdgesOfLooks.class);

    private final String document;
    private final List<Method> tests = new ArrayList<>();
    private int failed;
    private int unquoted;

    private EdgeTest(String document) {
        this.document = document.replaceAll("\\s+", " ");
        for (Class<?> some : TESTS) {
            Arrays.stream(some.getDeclaredMethods()).filter(m -> m.isAnnotationPresent(Edge.class))
                .sorted(Comparator.comparing(Method::getName)).forEach(tests::add);
        }
    }

    public static void main(String[] args) throws Exception {
        EdgeTest all = new EdgeTest(Files.readString(Path.of(args[0])));
        all.tests.forEach(all::run);
        for (int promise = 1; promise <= PROMISES; promise++) {
            all.findUnquoted("Promise " + promise);
        }
        System.out.println("EdgeTest: " + (all.tests.size() - all.failed) + " passed, " + all.failed + " failed, "
            + all.unquoted + " pieces not tested");
        if (all.failed + all.unquoted > 0) {
            System.exit(1);
        }
    }

    private void run(Method test) {
        Edge edge = test.getAnnotation(Edge.class);
        Checks.begin(edge.in() + ", \"" + edge.says() + "\", " + test.getName());
        if (!section(edge.in()).contains(edge.says())) {
            Checks.say("the document does not say so");
        }
        try {
            test.invoke(null);
        } catch (InvocationTargetException | IllegalAccessException e) {
            Checks.say(e + ", " + e.getCause());
        }
        if (Checks.wrongAnswers() > 0) {
            failed++;
        }
    }

    /** The piece of the document under a heading. */
    private String section(String heading) {
        boolean term = !heading.startsWith("Promise");
        String from = term ? "==== " + heading : "## " + heading + ":";
        int start = document.indexOf(from) + from.length();
        int end = document.indexOf(term ? heading.equals("I.") ? "==== II." : "The constants:" : "## ", start);
        return document.substring(start, end);
    }

    private void findUnquoted(String heading) {
        String text = section(heading).replaceAll(".*`: ", "");
        for (String piece : text.split("[.;] ")) {
            boolean tellsAnEdge = piece.matches(".*(NONE|-2|-3|empty|at the most|more than|fewer|\\(-?\\d+,? ).*");
            boolean quoted = tests.stream().map(test -> test.getAnnotation(Edge.class))
                .anyMatch(edge -> edge.in().equals(heading) && (piece.contains(edge.says()) || edge.says().contains(piece)));
            if (tellsAnEdge && !quoted) {
                unquoted++;
                System.out.println(heading + ": no test for \"" + piece + "\"");
            }
        }
    }
}
