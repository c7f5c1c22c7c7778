import java.io.IOException;
import java.io.UncheckedIOException;
import java.nio.file.Files;
import java.nio.file.Path;
import java.util.ArrayList;
import java.util.BitSet;
import java.util.List;
import java.util.regex.Matcher;
import java.util.regex.Pattern;

/** The sentences of ../shared/DOC.md: section 0 are the terms, 1 to 53 the promises. */
final class Document {
    static final int PROMISES = 53;
    private static final Path FILE = Path.of("../shared/DOC.md");
    private final String[] sections = new String[PROMISES + 1];
    private final BitSet[] quoted = new BitSet[PROMISES + 1];

    Document() {
        String text = read();
        sections[0] = plain(terms(text));
        for (int i = 1; i <= PROMISES; i++) {
            String section = between(text, "## Promise " + i + ":", i < PROMISES ? "## Promise " : "## Not promised");
            // The call's own line stands ahead of what is said of it.
            sections[i] = plain(section.substring(section.indexOf("`: ") + 3));
        }
        for (int i = 0; i <= PROMISES; i++) {
            quoted[i] = new BitSet();
        }
    }

    private static String read() {
        try {
            return Files.readString(FILE);
        } catch (IOException e) {
            throw new UncheckedIOException(e);
        }
    }

    /** How long an object is used is told ahead of the terms, but is one of them. */
    private static String terms(String text) {
        String terms = between(text, "## Terms", "Ahead of the calls");
        return between(text, "An object is used", "## The public face") + " " + terms;
    }

    private static String between(String text, String head, String tail) {
        int from = text.indexOf(head);
        int to = text.indexOf(tail, from + head.length());
        if (from < 0 || to < 0) {
            throw new IllegalStateException("the document has no " + head);
        }
        return text.substring(head.startsWith("##") ? from + head.length() : from, to);
    }

    private static String plain(String text) {
        return text.replaceAll("```\\w*", "").replaceAll("==== \\d\\.", "").replaceAll("\\s+", " ").trim();
    }

    /** Whether a section says these words; they are quoted then. */
    boolean quote(int section, String words) {
        int at = sections[section].indexOf(words);
        boolean found = at >= 0;
        while (at >= 0) {
            quoted[section].set(at, at + words.length());
            at = sections[section].indexOf(words, at + 1);
        }
        return found;
    }

    /** What no row has quoted, a promise's number ahead of it. */
    List<String> neverQuoted() {
        List<String> out = new ArrayList<>();
        for (int i = 0; i <= PROMISES; i++) {
            int from = quoted[i].nextClearBit(0);
            while (from < sections[i].length()) {
                int to = quoted[i].nextSetBit(from);
                to = to < 0 ? sections[i].length() : to;
                String words = sections[i].substring(from, to);
                Matcher sign = Pattern.compile("\\w").matcher(words);
                if (sign.find()) {
                    out.add(i + ": " + words.trim());
                }
                from = quoted[i].nextClearBit(to);
            }
        }
        return out;
    }
}
