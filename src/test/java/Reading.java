import java.io.IOException;
import java.nio.file.Files;
import java.nio.file.Path;

/** Goes through the document piece by piece, from its first word to its last, so that none of it can be left out. */
final class Reading {
    private static final Path PLACE = Path.of("../shared/DOC.md");

    private final Due answers;
    private final Due words = new Due("DocumentTest, the document's words");
    private final String text;
    private int at = 0;

    Reading(Due answers) throws IOException {
        this.answers = answers;
        // Where the document itself is missing, its pieces still ask for their answers.
        text = Files.exists(PLACE) ? plain(Files.readString(PLACE)) : null;
        if (text == null) {
            System.out.println(PLACE + " is not there: its words are not compared");
        }
    }

    /** The next piece; what is asked from here on is held against it, and something must be. */
    void asks(String piece) {
        answers.sentence(piece);
        goOn(piece);
    }

    /** The next piece, which asks for nothing: a title, a sign of the page, what is not promised. */
    void passes(String piece) {
        answers.noSentence();
        goOn(piece);
    }

    /** All up to these words, which are next then; nothing, if there is no document. */
    String upTo(String words) {
        answers.noSentence();
        if (text == null) {
            return "";
        }
        int end = text.indexOf(words, at);
        this.words.that("somewhere behind place " + at + ": " + words, end >= 0);
        String between = end >= 0 ? text.substring(at, end) : "";
        at += between.length();
        return between;
    }

    void end() {
        if (text != null) {
            words.same("the document ends here", text.substring(at).trim(), "");
            words.end();
        }
    }

    private void goOn(String piece) {
        if (text == null) {
            return;
        }
        while (at < text.length() && text.charAt(at) == ' ') {
            at++;
        }
        boolean next = text.startsWith(piece, at);
        words.that("next is '" + text.substring(at, Math.min(text.length(), at + 60)) + "', not '" + piece + "'", next);
        int found = text.indexOf(piece, at);
        if (found >= 0) {
            at = found + piece.length();
        }
    }

    private static String plain(String page) {
        return page.replaceAll("\\s+", " ").trim();
    }
}
