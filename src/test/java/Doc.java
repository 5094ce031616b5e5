import java.nio.file.Files;
import java.nio.file.Path;
import java.util.ArrayList;
import java.util.Arrays;
import java.util.LinkedHashSet;
import java.util.List;
import java.util.Set;

/**
 * Ties the tests of edges to the document's sentences: each sentence is named word by word ahead of the calls that
 * test it, and a chapter is not at its end before all its sentences have been named.
 */
final class Doc {
    private static final Path DOCUMENT = Path.of("../shared/DOC.md");
    /** Behind a full stop (not behind two of them, as in "0, 1, .."), ahead of a new sentence. */
    private static final String NEXT_SENTENCE = "(?<=[A-Za-z0-9)`]\\.|\\.\\))\\s+(?=[A-Z(])";

    private static final Set<String> unnamed = new LinkedHashSet<>();
    private static String chapter = "";
    private static String sentence = "";
    private static int askedAhead = 0;

    private Doc() {
    }

    static void chapter(String heading) throws Exception {
        endChapter();
        chapter = heading;
        sentence = "";
        unnamed.addAll(sentencesOf(heading));
        Due.that("the document has the chapter " + heading, !unnamed.isEmpty());
        askedAhead = Due.asked();
    }

    /** A sentence that the calls from here on test. */
    static void says(String text) {
        endSentence();
        Due.that("named once, and in the document: " + chapter + ": " + text, unnamed.remove(text));
        sentence = text;
        askedAhead = Due.asked();
    }

    /** Sentences that no call can test: they name nothing that a call answers. */
    static void leavesOut(String... beginnings) {
        for (String beginning : beginnings) {
            Due.that("in the document: " + beginning, unnamed.removeIf(text -> text.startsWith(beginning)));
        }
    }

    static String here() {
        return chapter + ": " + sentence + " ";
    }

    static void end() {
        endChapter();
        Due.end();
    }

    private static void endSentence() {
        if (!sentence.isEmpty()) {
            Due.that("calls test it: " + here(), Due.asked() > askedAhead);
        }
    }

    private static void endChapter() {
        endSentence();
        for (String text : unnamed) {
            Due.that("tested: " + chapter + ": " + text, false);
        }
        unnamed.clear();
    }

    private static List<String> sentencesOf(String heading) throws Exception {
        List<String> sentences = new ArrayList<>();
        for (String part : Files.readString(DOCUMENT).split("(?m)^## ")) {
            if (part.startsWith(heading + "\n")) {
                for (String paragraph : part.substring(heading.length()).trim().split("\n\n")) {
                    String text = paragraph.trim().replaceFirst("^`[^`]*`: ", "").replaceFirst("^\\d\\. ", "");
                    sentences.addAll(Arrays.asList(text.split(NEXT_SENTENCE)));
                }
            }
        }
        return sentences;
    }
}
