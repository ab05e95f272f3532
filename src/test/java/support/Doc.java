import java.nio.file.Files;
import java.nio.file.Path;
import java.util.Arrays;
import java.util.TreeSet;

/**
 * Names the sentence of the document that the next answers test. A quotation must stand where it is said to
 * stand, and at least one answer must follow it: so no sentence is named without a test of its own.
 */
final class Doc {
    /** The number under which the words above the promises are quoted. */
    static final int DESCRIPTION = 0;
    private static final Path FILE = Path.of("../shared/DOC.md");

    private static String[] sections;
    private static final TreeSet<Integer> named = new TreeSet<>();
    private static int sentences = 0;
    private static int answersBefore = 0;
    private static String latest = "";

    private Doc() {
    }

    static void sentence(int promise, String words) throws Exception {
        closeLatest();
        latest = (promise == DESCRIPTION ? "the description" : "promise " + promise) + ": \"" + words + "\"";
        Due.part("the document's words");
        Due.due(latest + " stands there", section(promise).contains(words));
        sentences++;
        named.add(promise);
        answersBefore = Due.answers();
        Due.part(latest);
    }

    /** Ends the test; all promises from the first to the last are due to have been named. */
    static void end(int firstPromise, int lastPromise) {
        closeLatest();
        Due.part("the sentences");
        for (int promise = firstPromise; promise <= lastPromise; promise++) {
            Due.due("promise " + promise + " is named", named.contains(promise));
        }
        System.out.println(sentences + " sentences");
        Due.end();
    }

    private static void closeLatest() {
        if (sentences > 0 && Due.answers() == answersBefore) {
            Due.part(latest);
            Due.due("an answer to test it", false);
        }
    }

    private static String section(int promise) throws Exception {
        if (sections == null) {
            sections = Arrays.stream(Files.readString(FILE).split("## Promise \\d+: "))
                    .map(text -> text.replaceAll("\\s+", " ")).toArray(String[]::new);
        }
        return promise < sections.length ? sections[promise] : "";
    }
}
