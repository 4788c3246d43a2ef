import java.io.IOException;
import java.io.UncheckedIOException;
import java.nio.file.Files;
import java.nio.file.Path;

/** The document, so that a test's sentence is one of it. */
final class Doc {
    private static final String TEXT = text();

    private Doc() {
    }

    /** The declarations of the public face, one after the other, without what is around them. */
    static String[] face() {
        int from = TEXT.indexOf("public final class MarginPlan {");
        String all = TEXT.substring(TEXT.indexOf('{', from) + 1, TEXT.indexOf('}', from));
        return all.trim().split("; ?");
    }

    private static String text() {
        try {
            return plain(Files.readString(Path.of("../shared/DOC.md")));
        } catch (IOException e) {
            throw new UncheckedIOException(e);
        }
    }

    private static String plain(String text) {
        return text.replace("`", "").replaceAll("\\s+", " ");
    }

    /** Whether these words stand in "Terms 1" to "Terms 5", in "Promise 1" to "Promise 53", or in "What it is". */
    static boolean says(String part, String words) {
        boolean term = part.startsWith("Terms ");
        String head = term ? "==== " + part.substring(6) + ". " : part.startsWith("Promise ") ? "## " + part + ": " : "## " + part;
        int from = TEXT.indexOf(head);
        if (from < 0) {
            return false;
        }
        int to = TEXT.indexOf(term ? "==== " : "## ", from + head.length());
        if (to < 0) {
            to = TEXT.indexOf("## Promise 1: ", from + head.length());
        }
        return TEXT.substring(from, to < 0 ? TEXT.length() : to).contains(plain(words));
    }
}
