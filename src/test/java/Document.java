import java.io.IOException;
import java.io.UncheckedIOException;
import java.nio.file.Files;
import java.nio.file.Path;
import java.util.BitSet;

/** The document, and which of its signs stand in a sentence that some test quotes. */
final class Document {
    private final String text;
    private final BitSet quoted = new BitSet();

    Document() {
        try {
            text = Files.readString(Path.of("../shared/DOC.md"));
        } catch (IOException e) {
            throw new UncheckedIOException(e);
        }
    }

    /** Whether these words stand just once in the section of Terms. */
    boolean quotesTerms(String words) {
        return quotes(text.indexOf("## Terms"), text.indexOf("## Promise 1:"), words);
    }

    /** Whether these words stand just once in the section of a promise. */
    boolean quotesPromise(int number, String words) {
        int from = text.indexOf("## Promise " + number + ":");
        return quotes(from, text.indexOf("\n## ", from), words);
    }

    private boolean quotes(int from, int to, String words) {
        int at = text.indexOf(words, from);
        int again = text.indexOf(words, at + 1);
        boolean once = at >= 0 && at + words.length() <= to && (again < 0 || again >= to);
        if (once) {
            quoted.set(at, at + words.length());
        }
        return once;
    }

    /** The words from the section Terms on, without headings and signatures, that no test has quoted. */
    String unquoted() {
        StringBuilder left = new StringBuilder();
        int from = text.indexOf("## Terms");
        int to = text.indexOf("## Not promised");
        for (String line : text.substring(from, to).split("\n")) {
            String prose = line.startsWith("#") || line.startsWith("```") ? "" : line.replaceFirst("^`[^`]*`: |^==== \\d\\. ", "");
            int at = from + line.length() - prose.length();
            for (int i = 0; i < prose.length(); i++) {
                boolean open = Character.isLetterOrDigit(prose.charAt(i)) && !quoted.get(at + i);
                left.append(open ? prose.charAt(i) : ' ');
            }
            left.append('\n');
            from += line.length() + 1;
        }
        return left.toString().replaceAll(" +", " ").replaceAll("\\s*\n\\s*", "\n").trim();
    }
}
