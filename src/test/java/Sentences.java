import java.io.IOException;
import java.nio.file.Files;
import java.nio.file.Path;
import java.util.Set;
import java.util.TreeSet;

/** The sentences of the document that name a boundary, each with the number of its promise ahead of it. */
final class Sentences {
    private static final Path DOCUMENT = Path.of("../shared/DOC.md");
    private static final String USE = "An object is used for at most";

    private final Set<String> sentences = new TreeSet<>();

    static Set<String> withBoundaries() throws IOException {
        Sentences found = new Sentences();
        String text = Files.readString(DOCUMENT);
        found.addTerms(between(text, "## Terms", "Ahead of the calls"));
        found.addUse(text);
        for (int promise = 1; text.contains(heading(promise)); promise++) {
            String end = text.contains(heading(promise + 1)) ? heading(promise + 1) : "## Not promised";
            found.addPromise(promise, between(text, heading(promise), end));
        }
        return found.sentences;
    }

    private static String heading(int promise) {
        return "## Promise " + promise + ":";
    }

    private static String between(String text, String from, String to) {
        int start = text.indexOf(from);
        return text.substring(start, text.indexOf(to, start));
    }

    /** All sentences of the paragraphs behind the first one, but for their headings. */
    private void addTerms(String text) {
        String[] paragraphs = text.replaceAll("\\s+", " ").split("<p>");
        for (int i = 1; i < paragraphs.length; i++) {
            String[] all = paragraphs[i].trim().split("(?<=\\.) ");
            for (int j = 1; j < all.length; j++) {
                sentences.add(Edges.TERMS + ": " + all[j]);
            }
        }
    }

    private void addUse(String text) {
        int start = text.indexOf(USE);
        sentences.add(Edges.TERMS + ": " + text.substring(start, text.indexOf('\n', start)));
    }

    /** What throws, and what has a number or a sign in it or tells what is without. */
    private void addPromise(int promise, String text) {
        String[] lines = text.split("\n");
        for (int i = 1; i < lines.length; i++) {
            String line = lines[i].replaceAll("^- ", "").replaceAll("^`[^`]*\\)[^`]*`: ", "");
            if (line.startsWith("Throws") || line.matches(".*([0-9]|'.'| without ).*")) {
                sentences.add(promise + ": " + line);
            }
        }
    }
}
