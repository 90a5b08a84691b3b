import java.io.IOException;
import java.nio.file.Files;
import java.nio.file.Path;
import java.util.List;
import java.util.regex.Pattern;

/** Rules of LANGUAGE.md that can be read off the source: words that may not stand there, and the length of methods. */
public final class SourceTest {
    private static final List<String> NEVER = List.of(
        "\\b(throw|throws|try|catch|finally|synchronized|assert|import|package|volatile|transient|native|protected)\\b",
        "->", "::", "\\bstatic \\{", "\\b(hashCode|toString)\\b", "Exact\\b", "\\b(double|float)\\b",
        "\\b(Integer|Long)\\.[A-Z]", "\\bSystem\\.(?!arraycopy)", "\\bvar\\b", "@");
    private static final int LONGEST_METHOD = 60;

    public static void main(String[] args) throws IOException {
        String source = Files.readString(Path.of("src/main/java/ShoesHall.java"));
        for (char c : source.toCharArray()) {
            if (c > 126) Check.due("a sign of the source", c, 126);
        }
        String code = source.replaceAll("(?s)/\\*.*?\\*/", "").replaceAll("//[^\n]*", "");
        for (String never : NEVER) {
            Check.due(never + " stands there", Pattern.compile(never).matcher(code).find() ? 1 : 0, 0);
        }
        methodLengths(source);
        Check.end("SourceTest");
    }

    /** A method begins with a line that ends in ") {" at an indent of 4 or 8 and ends with "}" at that indent. */
    private static void methodLengths(String source) {
        int began = 0;
        String indent = null;
        String[] lines = source.split("\n");
        for (int i = 0; i < lines.length; i++) {
            if (indent == null && lines[i].matches(" {4}( {4})?(public|private|static|int|long|boolean|void)\\b.*\\) \\{")) {
                indent = lines[i].substring(0, lines[i].length() - lines[i].stripLeading().length());
                began = i;
            } else if (indent != null && lines[i].equals(indent + "}")) {
                Check.due("length of " + lines[began].strip(), i - began < LONGEST_METHOD ? 1 : 0, 1);
                indent = null;
            }
        }
    }
}
