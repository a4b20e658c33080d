import java.io.IOException;
import java.lang.reflect.Method;
import java.lang.reflect.Modifier;
import java.nio.file.Files;
import java.nio.file.Path;
import java.util.HashMap;
import java.util.List;
import java.util.Map;
import java.util.Set;
import java.util.TreeSet;
import java.util.regex.Matcher;
import java.util.regex.Pattern;
import java.util.stream.Stream;

/** README.md against the class and the tests: its example's answers, its calls, its tests. */
public final class ReadmeTest {
    private static final Check CHECK = new Check();
    private static final Pattern EXAMPLE_CALL = Pattern.compile(
            "(?:int (\\w+) = )?desk\\.(\\w+)\\((.*?)\\); +// (-?\\d+|true|false): .*");
    private static final Pattern NAMED_CALL = Pattern.compile("`(\\w+)\\(([^)]*)\\)`");

    private ReadmeTest() { }

    public static void main(String[] args) throws IOException, ReflectiveOperationException {
        String readme = Files.readString(Path.of("README.md"));
        example(readme);
        calls(readme);
        tests(readme);
        CHECK.finish();
    }

    private static String between(String text, String from, String to) {
        int start = text.indexOf(from);
        int stop = start < 0 ? -1 : text.indexOf(to, start + from.length());
        CHECK.due("README.md has " + from.strip(), stop >= 0, true);
        return stop >= 0 ? text.substring(start + from.length(), stop) : "";
    }

    /** Makes each call of the example; the comment behind it begins with the answer due. */
    private static void example(String readme) throws ReflectiveOperationException {
        List<String> lines = between(readme, "```java\n", "```").lines().toList();
        CHECK.due("the example makes a desk",
                !lines.isEmpty() && lines.get(0).equals("HomeFinder desk = new HomeFinder();"), true);
        HomeFinder desk = new HomeFinder();
        Map<String, Object> names = new HashMap<>();
        for (String line : lines.subList(Math.min(1, lines.size()), lines.size())) {
            Matcher call = EXAMPLE_CALL.matcher(line);
            CHECK.due("a call and its answer: " + line, call.matches(), true);
            if (call.matches()) {
                Method method = method(call.group(2));
                Object answer = method.invoke(desk, arguments(call.group(3), names));
                CHECK.due(line, number(answer), number(argument(call.group(4), names)));
                names.put(call.group(1), answer);
            }
        }
    }

    private static Method method(String name) throws NoSuchMethodException {
        for (Method method : HomeFinder.class.getDeclaredMethods()) {
            if (Modifier.isPublic(method.getModifiers()) && method.getName().equals(name)) {
                return method;
            }
        }
        throw new NoSuchMethodException(name);
    }

    private static int number(Object answer) {
        return answer instanceof Boolean yes ? (yes ? 1 : 0) : (Integer) answer;
    }

    private static Object[] arguments(String text, Map<String, Object> names) {
        return Stream.of(text.split(", *")).filter(word -> !word.isEmpty())
                .map(word -> argument(word, names)).toArray();
    }

    private static Object argument(String word, Map<String, Object> names) {
        if (word.equals("true") || word.equals("false")) {
            return Boolean.valueOf(word);
        }
        return names.containsKey(word) ? names.get(word) : Integer.decode(word);
    }

    /** The table of calls names each of the face once, with its number of arguments. */
    private static void calls(String readme) {
        Set<String> missing = new TreeSet<>();
        for (Method method : HomeFinder.class.getDeclaredMethods()) {
            if (Modifier.isPublic(method.getModifiers())) {
                missing.add(method.getName() + " " + method.getParameterCount());
            }
        }
        Matcher named = NAMED_CALL.matcher(between(readme, "| call |", "\n\n"));
        while (named.find()) {
            int count = named.group(2).isEmpty() ? 0 : named.group(2).split(",").length;
            CHECK.due("of the face: " + named.group(),
                    missing.remove(named.group(1) + " " + count), true);
        }
        CHECK.due("not in the table of calls: " + missing, missing.size(), 0);
    }

    /** The table of tests names each test of the project. */
    private static void tests(String readme) throws IOException {
        Set<String> missing = new TreeSet<>();
        try (Stream<Path> files = Files.list(Path.of("src/test/java"))) {
            files.map(file -> file.getFileName().toString())
                    .filter(name -> name.endsWith("Test.java"))
                    .forEach(name -> missing.add(name.replace(".java", "")));
        }
        Matcher named = Pattern.compile("(?m)^\\| (\\w+Test) \\|")
                .matcher(between(readme, "| test |", "\n\n"));
        while (named.find()) {
            CHECK.due("a test: " + named.group(1), missing.remove(named.group(1)), true);
        }
        CHECK.due("not in the table of tests: " + missing, missing.size(), 0);
    }
}
