import java.io.IOException;
import java.io.UncheckedIOException;
import java.nio.file.Files;
import java.nio.file.Path;
import java.util.ArrayList;
import java.util.List;

/** The document in pieces: the sentences that all methods share, and those of each promise. */
final class Document {
    static final int PROMISES = 32;
    private final String text;

    Document() {
        try {
            text = Files.readString(Path.of("../shared/DOC.md"));
        } catch (IOException e) {
            throw new UncheckedIOException(e);
        }
    }

    /** What the document says of all methods: under "What it is", and under "Description" before the examples. */
    List<String> description() {
        List<String> sentences = new ArrayList<>();
        addSentences(between("## What it is", "## The public face"), sentences);
        addSentences(between("## Description", "Examples: Each"), sentences);
        return sentences;
    }

    /** The sentences of a promise; the ways in which a call can end are one piece each. */
    List<String> promise(int n) {
        List<String> pieces = new ArrayList<>();
        String end = n == PROMISES ? "## Not promised" : "## Promise " + (n + 1) + ":";
        for (String sentence : sentencesOf(between("## Promise " + n + ":", end))) {
            boolean isReturn = sentence.startsWith("Returns ");
            for (String piece : isReturn ? sentence.split("; ") : new String[] {sentence}) {
                pieces.add(piece);
            }
        }
        return pieces;
    }

    private static List<String> sentencesOf(String section) {
        List<String> sentences = new ArrayList<>();
        addSentences(section, sentences);
        return sentences;
    }

    private String between(String start, String end) {
        int from = text.indexOf(start);
        int to = text.indexOf(end, from);
        if (from < 0 || to < 0) {
            throw new IllegalStateException("no " + start + " or no " + end + " in the document");
        }
        return text.substring(from + start.length(), to);
    }

    private static void addSentences(String section, List<String> sentences) {
        String body = section.substring(section.indexOf('\n') + 1).replaceAll("(?m)^----.*$", "");
        for (String paragraph : body.split("\n\n|\n- |\n(?=[A-Z ]+\\. )")) {
            String line = paragraph.replaceAll("\\s+", " ").replaceFirst("^ ?(- )?", "").trim();
            // A title of capitals, and the signature of a method, say nothing by themselves.
            line = line.replaceFirst("^[A-Z ]+\\. (?=[A-Z])", "");
            if (line.isEmpty() || line.matches("`(int )?\\w+\\([^`]*\\)`")) {
                continue;
            }
            for (String sentence : line.split("(?<=[.]) (?=\\(?[A-Z])")) {
                sentences.add(sentence);
            }
        }
    }
}
