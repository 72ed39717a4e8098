import java.io.IOException;
import java.nio.file.Files;
import java.nio.file.Path;
import java.util.Set;
import java.util.TreeSet;

/** Tests sentence by sentence: each stands in the document as it is told here, and has answers of its own. */
final class Edge {
    private static final Path DOCUMENT = Path.of("../shared/DOC.md");
    private static final Set<Integer> PROMISES = new TreeSet<>();
    private static String document = "";
    private static int askedBefore = 0;
    private static boolean begun = false;

    private Edge() {
    }

    /** What is asked from now on would fail, were this sentence of a promise (or of what it speaks of) broken. */
    static void of(int promise, String sentence) {
        endSentence();
        begun = true;
        PROMISES.add(promise);
        Check.about("promise " + promise + " <" + sentence + ">: ");
        Check.due("the document tells it", document().contains(flat(sentence)), true);
        askedBefore = Check.asked();
    }

    static void finish(int... promises) {
        endSentence();
        Check.about("");
        for (int promise : promises) {
            Check.due("promise " + promise + " has a sentence", PROMISES.contains(promise), true);
        }
        Check.finish();
    }

    private static void endSentence() {
        if (begun) {
            Check.due("it has answers of its own", Check.asked() > askedBefore, true);
        }
    }

    private static String document() {
        if (document.isEmpty()) {
            try {
                document = flat(Files.readString(DOCUMENT));
            } catch (IOException problem) {
                document = "no document: " + problem;
            }
        }
        return document;
    }

    private static String flat(String text) {
        return text.replaceAll("\\s+", " ");
    }
}
