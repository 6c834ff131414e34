import java.io.IOException;
import java.nio.file.Files;
import java.nio.file.Path;
import java.util.ArrayList;
import java.util.List;

/**
 * The sentences of ../shared/DOC.md. Each test of an edge names the sentence that it is about, and at
 * the end every sentence that names an edge must have had one.
 */
final class Doc {
    /** How the sentences begin that name no bound and promise no answer. */
    private static final List<String> WITHOUT_EDGES = List.of(
            "Pull quotes in a grid of articles",
            "what later calls answer is free.",
            "All numbers are whole.",
            "Ahead of the calls `addArticle`",
            "Ahead of the calls `addQuote`",
            "Ahead of the calls `take`",
            "Ahead of the calls `append`",
            "Ahead of the calls `count`");

    /** The face is what FaceTest tests. */
    private static final List<String> SECTIONS_WITHOUT_EDGES = List.of("The public face", "Not promised");

    private static final List<Sentence> SENTENCES = new ArrayList<>();
    private static String open = "";
    private static int askedBefore = 0;

    private Doc() {
    }

    private static final class Sentence {
        private final String section;
        private final String words;
        private boolean tested;

        Sentence(String section, String words) {
            this.section = section;
            this.words = words;
        }

        /** The section "Promise 2" is headed "Promise 2: addArticle". */
        boolean isIn(String asked) {
            return section.equals(asked) || section.startsWith(asked + ":");
        }

        boolean hasNoEdge() {
            return WITHOUT_EDGES.stream().anyMatch(words::startsWith);
        }
    }

    /** Takes the sentences of all sections but those without edges; list items and rows are sentences too. */
    static void read() throws IOException {
        String section = "";
        for (String row : Files.readAllLines(Path.of("../shared/DOC.md"))) {
            String line = row.strip();
            if (line.startsWith("#")) {
                section = line.replaceFirst("^#+ ", "");
            } else if (!SECTIONS_WITHOUT_EDGES.contains(section) && !line.isEmpty() && !line.startsWith("```")) {
                for (String words : line.split("(?<=[.;])\\s+")) {
                    SENTENCES.add(new Sentence(section, words));
                }
            }
        }
    }

    /** Opens a test of its own about a sentence, of which it tells the beginning or some of its words. */
    static void about(String section, String words) {
        close();
        open = section + ", \"" + words + "\"";
        askedBefore = Check.asked();
        Check.subject(open);
        int found = 0;
        for (Sentence sentence : SENTENCES) {
            if (sentence.isIn(section) && sentence.words.contains(words)) {
                sentence.tested = true;
                found++;
            }
        }
        Check.holds("the document has " + found + " such sentences", found == 1);
    }

    private static void close() {
        Check.holds("nothing was tested about it", open.isEmpty() || Check.asked() > askedBefore + 1);
        Check.subject("");
    }

    /** Checks that each sentence has been tested. */
    static void end() {
        close();
        for (Sentence sentence : SENTENCES) {
            Check.holds("no test is about a sentence of " + sentence.section + ": " + sentence.words,
                    sentence.tested || sentence.hasNoEdge());
        }
        Check.holds("no sentence was read", !SENTENCES.isEmpty());
    }
}
