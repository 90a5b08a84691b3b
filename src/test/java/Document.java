import java.io.IOException;
import java.nio.file.Files;
import java.nio.file.Path;
import java.util.ArrayList;
import java.util.List;
import java.util.regex.Matcher;
import java.util.regex.Pattern;

/** The words of ../shared/DOC.md, and which of them some test quotes. */
final class Document {
    private static final Path FILE = Path.of("../shared/DOC.md");
    /** Words that promise nothing of their own: code, marks of paragraphs, and which calls stand under which headline. */
    private static final Pattern ASIDE = Pattern.compile(
        "```text|```|`[^`]*`|={8} \\d|Ahead of the calls [^:]*?the interface says: ---- [a-z, ]+\\.");
    private static final int PROMISES = 37;
    private final String all;
    private final boolean[] quoted;

    Document() throws IOException {
        all = Files.exists(FILE) ? Files.readString(FILE).replaceAll("\\s+", " ") : "";
        quoted = new boolean[all.length()];
    }

    boolean isThere() {
        return !all.isEmpty();
    }

    /** Where these words stand in the promise, or in what the document says ahead of the promises. */
    boolean quote(int promise, String words) {
        return quoteFrom(headline(promise), headline(promise + 1), words) || quoteFrom(0, headline(1), words);
    }

    private boolean quoteFrom(int from, int to, String words) {
        int at = all.indexOf(words, from);
        if (at < 0 || at + words.length() > to) {
            return false;
        }
        for (int i = at; i < at + words.length(); i++) {
            quoted[i] = true;
        }
        return true;
    }

    private int headline(int promise) {
        return all.indexOf(promise > PROMISES ? "## Not promised" : "## Promise " + promise + ":");
    }

    /** The stretches of the terms and promises that no test quotes. */
    List<String> unquoted() {
        List<String> stretches = new ArrayList<>();
        addUnquoted(all.indexOf("## Terms") + "## Terms".length(), headline(1), stretches);
        for (int promise = 1; promise <= PROMISES; promise++) {
            int name = all.indexOf('`', headline(promise));
            addUnquoted(name, headline(promise + 1), stretches);
        }
        return stretches;
    }

    private void addUnquoted(int from, int to, List<String> stretches) {
        boolean[] aside = new boolean[all.length()];
        Matcher m = ASIDE.matcher(all).region(from, to);
        while (m.find()) {
            for (int i = m.start(); i < m.end(); i++) {
                aside[i] = true;
            }
        }
        StringBuilder stretch = new StringBuilder();
        for (int i = from; i <= to; i++) {
            if (i < to && !quoted[i] && !aside[i]) {
                stretch.append(all.charAt(i));
            } else {
                // Signs between two quotes tell nothing.
                if (stretch.chars().anyMatch(Character::isLetterOrDigit)) {
                    stretches.add(stretch.toString());
                }
                stretch.setLength(0);
            }
        }
    }
}
