import java.io.IOException;
import java.lang.reflect.Method;
import java.lang.reflect.Modifier;
import java.nio.file.Files;
import java.nio.file.Path;
import java.util.Arrays;
import java.util.List;
import java.util.regex.Matcher;
import java.util.regex.Pattern;
import java.util.stream.Stream;

/** README.md against the class: its example line by line, and that it names every method and every test. */
public final class RnaFolderReadme {
    private static final Path README = Path.of("README.md");
    private static final Path TESTS = Path.of("src/test/java");
    private static final Pattern MAKING = Pattern.compile("RnaFolder x = new RnaFolder\\((-?\\d+)\\);.*");
    private static final Pattern CALL = Pattern.compile("x\\.(\\w+)\\(([^)]*)\\);\\s*// (-?\\d+)(:.*)?");

    private static int wrong = 0;

    public static void main(String[] args) throws Exception {
        List<String> lines = Files.readAllLines(README);
        List<Method> methods = Arrays.stream(RnaFolder.class.getDeclaredMethods())
                .filter(method -> Modifier.isPublic(method.getModifiers()))
                .toList();
        List<String> example = exampleOf(lines);
        runExample(example, methods);
        for (Method method : methods) {
            String name = method.getName();
            due(example.stream().anyMatch(line -> line.startsWith("x." + name + "(")), "the example uses " + name);
            due(lines.stream().anyMatch(line -> line.startsWith("| `" + name + "(")), "the table has " + name);
        }
        due(lines.contains("    .ci/run"), "it says how to run the tests");
        for (String test : testNames()) {
            due(lines.stream().anyMatch(line -> line.startsWith("- `" + test + "`:")), "it names the test " + test);
        }
        System.out.println(wrong == 0 ? "the README is as due" : wrong + " wrong");
        System.exit(wrong == 0 ? 0 : 1);
    }

    private static List<String> exampleOf(List<String> lines) {
        return lines.stream()
                .dropWhile(line -> !line.equals("```java"))
                .skip(1)
                .takeWhile(line -> !line.equals("```"))
                .toList();
    }

    private static void runExample(List<String> example, List<Method> methods) throws ReflectiveOperationException {
        RnaFolder x = null;
        for (String line : example) {
            Matcher making = MAKING.matcher(line);
            Matcher call = CALL.matcher(line);
            if (making.matches()) {
                x = new RnaFolder(Integer.parseInt(making.group(1)));
            } else if (x != null && call.matches()) {
                int answer = answerOf(x, call.group(1), call.group(2), methods);
                due(answer == Integer.parseInt(call.group(3)), line + " (it answers " + answer + ")");
            } else {
                due(false, "a line of the example can be read: " + line);
            }
        }
    }

    private static int answerOf(RnaFolder x, String name, String arguments, List<Method> methods)
            throws ReflectiveOperationException {
        Object[] numbers = Stream.of(arguments.split(","))
                .map(String::trim)
                .filter(text -> !text.isEmpty())
                .map(Integer::valueOf)
                .toArray();
        for (Method method : methods) {
            if (method.getName().equals(name) && method.getParameterCount() == numbers.length) {
                return (int) method.invoke(x, numbers);
            }
        }
        throw new NoSuchMethodException(name);
    }

    private static List<String> testNames() throws IOException {
        try (Stream<Path> files = Files.list(TESTS)) {
            return files.map(file -> file.getFileName().toString())
                    .filter(file -> file.endsWith(".java"))
                    .map(file -> file.substring(0, file.length() - ".java".length()))
                    .sorted()
                    .toList();
        }
    }

    private static void due(boolean holds, String what) {
        if (!holds) {
            wrong++;
            System.out.println("not so: " + what);
        }
    }
}
