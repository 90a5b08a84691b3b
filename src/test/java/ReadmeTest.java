import java.io.IOException;
import java.lang.reflect.InvocationTargetException;
import java.lang.reflect.Method;
import java.lang.reflect.Modifier;
import java.nio.file.Files;
import java.nio.file.Path;
import java.util.ArrayList;
import java.util.List;
import java.util.regex.Matcher;
import java.util.regex.Pattern;
import java.util.stream.Stream;

/** README.md tells what is so: its example answers as it says, and it names every call and every test. */
public final class ReadmeTest {
    private static final String NEW_HALL = "ShoesHall hall = new ShoesHall();";
    private static final Pattern CALL = Pattern.compile("hall\\.(\\w+)\\((.*)\\); +// (-?\\d+)\\b.*");

    public static void main(String[] args) throws IOException, ReflectiveOperationException {
        String page = Files.readString(Path.of("README.md"));
        example(page);
        for (Method m : ShoesHall.class.getDeclaredMethods()) {
            if (Modifier.isPublic(m.getModifiers())) {
                Check.due("README.md tells of " + m.getName(), tells(page, m) ? 1 : 0, 1);
            }
        }
        for (String test : tests()) {
            Check.due("README.md tells of " + test, page.contains(test) ? 1 : 0, 1);
        }
        Check.due("README.md tells how tests are run", page.contains("\n.ci/run\n") ? 1 : 0, 1);
        Check.end("ReadmeTest");
    }

    private static void example(String page) throws ReflectiveOperationException {
        int from = page.indexOf("```java\n") + "```java\n".length();
        ShoesHall hall = null;
        for (String line : page.substring(from, page.indexOf("```", from)).split("\n")) {
            Matcher call = CALL.matcher(line);
            if (line.equals(NEW_HALL)) {
                hall = new ShoesHall();
            } else if (hall != null && call.matches()) {
                Check.due(line, answer(hall, call.group(1), call.group(2)), Long.parseLong(call.group(3)));
            } else {
                Check.due("a line that is no call with its answer: " + line, 1, 0);
            }
        }
    }

    private static long answer(ShoesHall hall, String name, String listed) throws ReflectiveOperationException {
        String[] words = listed.isEmpty() ? new String[0] : listed.split(", ");
        Class<?>[] ints = new Class<?>[words.length];
        Object[] with = new Object[words.length];
        for (int i = 0; i < words.length; i++) {
            ints[i] = int.class;
            with[i] = number(words[i]);
        }
        try {
            return ((Number) ShoesHall.class.getMethod(name, ints).invoke(hall, with)).longValue();
        } catch (InvocationTargetException e) {
            throw new IllegalStateException(name + " threw", e);
        }
    }

    private static int number(String word) {
        if (word.equals("ShoesHall.NONE")) {
            return ShoesHall.NONE;
        }
        return word.startsWith("'") ? word.charAt(1) : Integer.parseInt(word);
    }

    /** Whether the page has the call in the table, with as many names as it takes. */
    private static boolean tells(String page, Method m) {
        Matcher told = Pattern.compile("`" + m.getName() + "\\(([^)]*)\\)`").matcher(page);
        boolean found = false;
        while (told.find()) {
            int names = told.group(1).isEmpty() ? 0 : told.group(1).split(", ").length;
            found |= names == m.getParameterCount();
        }
        return found;
    }

    private static List<String> tests() throws IOException {
        List<String> names = new ArrayList<>();
        try (Stream<Path> files = Files.list(Path.of("src/test/java"))) {
            files.map(f -> f.getFileName().toString()).filter(f -> f.endsWith("Test.java"))
                .forEach(f -> names.add(f.substring(0, f.length() - ".java".length())));
        }
        return names;
    }
}
