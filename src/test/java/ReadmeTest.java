import java.io.IOException;
import java.lang.reflect.InvocationTargetException;
import java.lang.reflect.Method;
import java.lang.reflect.Modifier;
import java.nio.file.Files;
import java.nio.file.Path;
import java.util.List;
import java.util.regex.Matcher;
import java.util.regex.Pattern;
import java.util.stream.Collectors;
import java.util.stream.Stream;

/** That README.md's example answers what stands behind its rows, and that it names each call and each test. */
public final class ReadmeTest {
    private static final Path README = Path.of("README.md");
    private static final Path TESTS = Path.of("src/test/java");
    /** A row with a call, and what it answers, up to a ":" or the end. */
    private static final Pattern CALL = Pattern.compile("country\\.(\\w+)\\(([-0-9, ]*)\\); +// ([^:]+)(?::.*)?");
    private static final Pattern TEXT = Pattern.compile("for \\(char sign : \"([^\"]*)\"\\.toCharArray\\(\\)\\) \\{");
    private static final Pattern LINE = Pattern.compile("the length of the line \"([^\"]*)\"");

    public static void main(String[] args) throws IOException, ReflectiveOperationException {
        List<String> rows = Files.readAllLines(README);
        String readme = String.join("\n", rows);
        checkExample(rows.subList(rows.indexOf("```java") + 1, rows.size()));
        for (Method method : DroverTracks.class.getDeclaredMethods()) {
            if (Modifier.isPublic(method.getModifiers())) {
                Check.holds("names " + method.getName(), readme.contains('`' + method.getName() + '`'));
            }
        }
        for (String test : testNames()) {
            Check.holds("names " + test, readme.contains("| `" + test + "` |"));
        }
        Check.end("ReadmeTest");
    }

    private static List<String> testNames() throws IOException {
        try (Stream<Path> files = Files.list(TESTS)) {
            return files.map(file -> file.getFileName().toString()).filter(name -> name.endsWith("Test.java"))
                    .map(name -> name.replace(".java", "")).collect(Collectors.toList());
        }
    }

    private static void checkExample(List<String> rows) throws ReflectiveOperationException {
        DroverTracks country = new DroverTracks();
        int calls = 0;
        int due = 0;
        for (String row : rows.subList(0, rows.indexOf("```"))) {
            due += row.startsWith("country.") ? 1 : 0;
            Matcher text = TEXT.matcher(row);
            if (text.matches()) {
                Land.text(country, text.group(1));
            }
            Matcher call = CALL.matcher(row);
            if (call.matches()) {
                calls++;
                Check.due(row, call.group(3), answer(country, call.group(1), call.group(2)));
            }
            Matcher line = LINE.matcher(row);
            if (line.find()) {
                Check.due(row, line.group(1), Land.written(country));
            }
        }
        Check.holds("the example has calls", calls > 0);
        Check.due("each row with a call tells its answer", due, calls);
    }

    private static String answer(DroverTracks country, String name, String told) throws ReflectiveOperationException {
        String[] parts = told.isEmpty() ? new String[0] : told.split(", *");
        Class<?>[] types = new Class<?>[parts.length];
        Object[] numbers = new Object[parts.length];
        for (int i = 0; i < parts.length; i++) {
            types[i] = int.class;
            numbers[i] = Integer.parseInt(parts[i]);
        }
        try {
            return DroverTracks.class.getMethod(name, types).invoke(country, numbers).toString();
        } catch (InvocationTargetException e) {
            return e.getCause().getClass().getSimpleName();
        }
    }
}
