import java.io.IOException;
import java.lang.reflect.Method;
import java.nio.file.Files;
import java.nio.file.Path;
import java.util.Arrays;
import java.util.HashMap;
import java.util.List;
import java.util.Map;
import java.util.regex.Matcher;
import java.util.regex.Pattern;
import java.util.stream.Collectors;
import java.util.stream.Stream;

/** README.md: what its example answers, the text that it shows, and the calls and tests that it names. */
public final class ReadmeTest {
    private static final Pattern CALL = Pattern.compile("(?:int (\\w+) = )?grid\\.(\\w+)\\((.*)\\); +// (-?\\d+): .+");
    private static final Pattern SHOWN_CALL = Pattern.compile("`(\\w+)\\([^`]*\\)`");
    private static final Pattern SHOWN_TEST = Pattern.compile("(?m)^\\| `(\\w+)` \\|");

    public static void main(String[] args) throws IOException, ReflectiveOperationException {
        String readme = Files.readString(Path.of("README.md"));
        example(block(readme, "java"));
        text(block(readme, "text"));
        calls(readme);
        tests(readme);
        Check.end();
    }

    /** The lines between the marks of a block of this kind, of which there must be one. */
    private static List<String> block(String readme, String kind) {
        String[] parts = readme.split("```" + kind + "\n", -1);
        Check.due("the blocks of " + kind, parts.length - 1, 1);
        return parts.length < 2 ? List.of() : parts[1].substring(0, parts[1].indexOf("```")).lines().toList();
    }

    private static void example(List<String> lines) throws ReflectiveOperationException {
        Check.holds("the example makes no object", lines.contains("QuoteGrid grid = new QuoteGrid();"));
        QuoteGrid grid = new QuoteGrid();
        Map<String, Integer> names = new HashMap<>();
        for (String line : lines.subList(Math.min(1, lines.size()), lines.size())) {
            Matcher call = CALL.matcher(line);
            if (!call.matches()) {
                Check.holds("the line tells no answer: " + line, false);
                continue;
            }
            int answer = ask(grid, call.group(2), call.group(3), names);
            Check.due(line, answer, Integer.parseInt(call.group(4)));
            if (call.group(1) != null) {
                names.put(call.group(1), answer);
            }
        }
    }

    /** Calls the method of this name; its arguments are numbers, or names of earlier answers. */
    private static int ask(QuoteGrid grid, String name, String list, Map<String, Integer> names)
            throws ReflectiveOperationException {
        String[] words = list.isEmpty() ? new String[0] : list.split(", ");
        Object[] values = Stream.of(words)
                .map(word -> names.containsKey(word) ? names.get(word) : Integer.valueOf(word)).toArray();
        Class<?>[] types = new Class<?>[values.length];
        Arrays.fill(types, int.class);
        Method method = QuoteGrid.class.getMethod(name, types);
        return (int) method.invoke(grid, values);
    }

    private static void text(List<String> lines) {
        Check.due("the texts", lines.size(), 1);
        QuoteGrid grid = Check.read(lines.get(0));
        Check.due("the articles of the text", grid.count(0), 1);
        Check.due("the sentences of its article", grid.article(0, 2), 2);
        Check.due("the quotes of the text", grid.count(1), 1);
    }

    /** Each method of the class is named in backquotes, with its arguments, and nothing else is. */
    private static void calls(String readme) {
        String named = SHOWN_CALL.matcher(readme).results().map(found -> found.group(1))
                .distinct().sorted().collect(Collectors.joining(" "));
        String there = Stream.of(QuoteGrid.class.getMethods())
                .filter(method -> method.getDeclaringClass() == QuoteGrid.class).map(Method::getName)
                .distinct().sorted().collect(Collectors.joining(" "));
        Check.holds("the calls are " + there + ", README.md names " + named, named.equals(there));
    }

    /** Each file of tests has its row in one of the tables, and each row its file. */
    private static void tests(String readme) throws IOException {
        String named = SHOWN_TEST.matcher(readme).results().map(found -> found.group(1))
                .sorted().collect(Collectors.joining(" "));
        try (Stream<Path> files = Files.list(Path.of("src/test/java"))) {
            String there = files.map(file -> file.getFileName().toString().replace(".java", ""))
                    .filter(name -> name.endsWith("Test") || name.endsWith("Edges"))
                    .sorted().collect(Collectors.joining(" "));
            Check.holds("the tests are " + there + ", README.md names " + named, named.equals(there));
        }
    }
}
