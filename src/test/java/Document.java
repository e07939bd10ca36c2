import java.io.IOException;
import java.io.UncheckedIOException;
import java.nio.file.Files;
import java.nio.file.Path;
import java.util.LinkedHashMap;
import java.util.List;
import java.util.Map;

/**
 * A part of ../shared/DOC.md, whose sentences are crossed out, each when a test of its own has run. A part that is
 * not crossed out as a whole fails, so that no sentence of the document is left without a test. Where the document is
 * not at hand, the tests run all the same, and nothing is crossed out.
 */
final class Document {
    private static final Path FILE = Path.of("../shared/DOC.md");
    private static final boolean IS_THERE = Files.exists(FILE);
    private static final Map<String, String> PARTS = parts();

    private final String name;
    private String left;

    private Document(String name, String text) {
        this.name = name;
        this.left = text;
    }

    static boolean isThere() {
        return IS_THERE;
    }

    /** The names of the parts: the headings, and within the terms the lines in capitals. */
    static Iterable<String> names() {
        return PARTS.keySet();
    }

    static Document part(String name) {
        for (Map.Entry<String, String> entry : PARTS.entrySet()) {
            if (entry.getKey().equals(name) || entry.getKey().startsWith(name + ":")) {
                return new Document(name, entry.getValue());
            }
        }
        Check.compare("the document has the part " + name, "yes", IS_THERE ? "no" : "yes");
        return new Document(name, "");
    }

    private static Map<String, String> parts() {
        Map<String, String> parts = new LinkedHashMap<>();
        String name = "";
        for (String line : lines()) {
            boolean isHeading = line.startsWith("## ");
            if (isHeading || line.matches("[A-Z ]{4,}")) {
                name = isHeading ? line.substring(3) : line;
                parts.put(name, "");
            } else {
                parts.merge(name, line, (before, next) -> (before + " " + next).trim());
            }
        }
        return parts;
    }

    private static Iterable<String> lines() {
        try {
            return IS_THERE ? Files.readAllLines(FILE) : List.of();
        } catch (IOException notThere) {
            throw new UncheckedIOException(notThere);
        }
    }

    /** Runs the test of a sentence, which has to check something. */
    void holds(String sentence, Runnable test) {
        crossOut(sentence);
        int checkedBefore = Check.checked();
        int wrongBefore = Check.wrong();
        runToTheEnd(test, sentence);
        if (Check.checked() == checkedBefore) {
            Check.compare(name + ", '" + sentence + "' is tested", "yes", "no");
        }
        if (Check.wrong() > wrongBefore) {
            System.out.println("  as " + name + " says: " + sentence);
        }
    }

    private void runToTheEnd(Runnable test, String sentence) {
        try {
            test.run();
        } catch (RuntimeException thrown) {
            Check.compare("the test of '" + sentence + "'", "runs to its end", "throws " + thrown);
        }
    }

    /** Crosses out words that ask for nothing. */
    void asksNothing(String words) {
        crossOut(words);
    }

    private void crossOut(String sentence) {
        int start = left.indexOf(sentence);
        if (IS_THERE && start < 0) {
            Check.compare(name + " says '" + sentence + "'", "yes", "no, or it is crossed out already");
        }
        left = start < 0 ? left : left.substring(0, start) + " | " + left.substring(start + sentence.length());
    }

    /** Fails if a sentence is left, other than the signature, which FaceTest looks at. */
    void end() {
        String rest = left.replaceFirst("^`[^`]*`:", "");
        Check.compare(name + " without its tested sentences", "", rest.replaceAll("[ |.,;:-]+", " ").trim());
    }
}
