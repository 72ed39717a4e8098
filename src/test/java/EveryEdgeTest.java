import java.io.IOException;
import java.nio.file.Files;
import java.nio.file.Path;
import java.util.List;
import java.util.regex.Matcher;
import java.util.regex.Pattern;
import java.util.stream.Collectors;
import java.util.stream.Stream;

/** Every sentence of promises 1 to 37, and of the sections that they speak of, has an Edge of its own. */
public final class EveryEdgeTest {
    private static final Pattern QUOTE = Pattern.compile("\"((?:\\\\.|[^\"\\\\])*)\"");
    private static final Pattern EDGE = Pattern.compile("Edge\\.of\\(\\s*(\\d+)\\s*,((?:\\s|\\+|" + QUOTE + ")+)\\)");

    private static String document;
    private static boolean[] told;

    public static void main(String[] args) throws IOException {
        document = flat(Files.readString(Path.of("../shared/DOC.md")));
        told = new boolean[document.length()];
        for (Path file : tests()) {
            Matcher edge = EDGE.matcher(Files.readString(file));
            while (edge.find()) {
                tell(Integer.parseInt(edge.group(1)), joined(edge.group(2)));
            }
        }
        rest(document.indexOf("I. A DISTRICT"), document.indexOf("The constants:"));
        for (int promise = 1; promise <= 37; promise++) {
            int start = start(promise);
            rest(start, end(start));
        }
        Check.finish();
    }

    private static List<Path> tests() throws IOException {
        try (Stream<Path> files = Files.list(Path.of("src/test/java"))) {
            return files.filter(file -> file.toString().endsWith("EdgesTest.java")).sorted().collect(Collectors.toList());
        }
    }

    private static String flat(String text) {
        return text.replaceAll("\\s+", " ");
    }

    private static String joined(String quotes) {
        StringBuilder all = new StringBuilder();
        Matcher quote = QUOTE.matcher(quotes);
        while (quote.find()) {
            all.append(quote.group(1));
        }
        return flat(all.toString());
    }

    private static int start(int promise) {
        int heading = document.indexOf("## Promise " + promise + ":");
        Check.due("promise " + promise + " is in the document", heading >= 0, true);
        return heading < 0 ? 0 : document.indexOf(": ", document.indexOf("`:", heading)) + 2;
    }

    private static int end(int start) {
        int next = document.indexOf("## ", start);
        return next < 0 ? document.length() : next;
    }

    /** In its own promise, if it is told there, so that each of several alike needs one; else ahead of all promises. */
    private static void tell(int promise, String sentence) {
        int start = start(promise);
        int at = document.indexOf(sentence, start);
        if (at < 0 || at >= end(start)) {
            at = document.indexOf(sentence);
        }
        for (int k = at; at >= 0 && k < at + sentence.length(); k++) {
            told[k] = true;
        }
    }

    private static void rest(int start, int end) {
        StringBuilder left = new StringBuilder();
        for (int k = Math.max(0, start); k <= end && k < document.length(); k++) {
            if (k < end && !told[k]) {
                left.append(document.charAt(k));
            } else if (left.length() > 0) {
                // what stands between sentences: blanks, stops, fences, the numbers of the sections
                String words = left.toString().replaceAll("```(text)?|\\b[IV]+\\. ?", "").trim();
                Check.due("<" + words + "> has an Edge", words.matches("\\W*"), true);
                left.setLength(0);
            }
        }
    }
}
