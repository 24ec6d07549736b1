import java.io.IOException;
import java.nio.file.Files;
import java.nio.file.Path;
import java.util.LinkedHashSet;
import java.util.Set;

/** Ties each test of a boundary to the sentence of the document that it tests. */
final class Says {
    private static final Path DOCUMENT = Path.of("../shared/DOC.md");
    private static final Set<String> all = new LinkedHashSet<>();
    private static final Set<String> untested = new LinkedHashSet<>();

    private Says() {
    }

    /** Sections are "Contracts", "Promise 7" and so on; a sentence is quoted as it stands there. */
    static void that(String section, String sentence, Check.Call test) {
        if (all.isEmpty()) {
            readDocument();
        }
        String quote = section + ": " + sentence;
        Check.yes("the document says " + quote, all.contains(quote));
        untested.remove(quote);
        Check.in(quote);
        try {
            test.run();
        } catch (RuntimeException e) {
            Check.same("ended by " + e, 0, 1);
        }
        Check.in("");
    }

    static void that(int promise, String sentence, Check.Call test) {
        that("Promise " + promise, sentence, test);
    }

    /** To be called at the end: a sentence has a test, or is said here to name no boundary. */
    static void leavesOnly(String... withoutBoundary) {
        for (String quote : withoutBoundary) {
            Check.yes("has no test, and is in the document: " + quote, untested.remove(quote));
        }
        untested.removeIf(quote -> quote.matches("Promise \\d+: - `\\w+`: index of .*"));
        for (String quote : untested) {
            Check.yes("no test of " + quote, false);
        }
    }

    private static void readDocument() {
        try {
            String section = "";
            for (String line : Files.readString(DOCUMENT).replaceAll("(?s)```.*?```", "").split("\n")) {
                if (line.startsWith("#")) {
                    section = line.replaceAll("^#+ |(?<=Promise \\d{1,2}):.*", "");
                } else if (line.matches("[A-Z][a-z ]+:")) {
                    section = line.substring(0, line.length() - 1);
                } else if (!line.isBlank() && !line.startsWith("`")) {
                    addSentences(section, line.trim());
                }
            }
        } catch (IOException e) {
            throw new IllegalStateException(e);
        }
        untested.addAll(all);
    }

    private static void addSentences(String section, String line) {
        for (String sentence : line.split("(?<=\\.) +(?=[A-Z(])")) {
            all.add(section + ": " + sentence);
        }
    }
}
