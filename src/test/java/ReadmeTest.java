import java.io.IOException;
import java.lang.reflect.Method;
import java.lang.reflect.Modifier;
import java.nio.file.Files;
import java.nio.file.Path;
import java.util.ArrayList;
import java.util.Arrays;
import java.util.List;
import java.util.regex.Matcher;
import java.util.regex.Pattern;

/** README.md tells the truth: its example answers as it says, and its table names every call. */
public final class ReadmeTest extends MonoidTest {
    private static final Path README = Path.of("README.md");
    private static final Pattern MAKING = Pattern.compile("TransformMonoid x = new TransformMonoid\\((-?\\d+)\\);.*");
    private static final Pattern CALL = Pattern.compile("x\\.(\\w+)\\(([-\\d, ]*)\\);\\s*// (-?\\d+)\\b.*");

    private static List<String> exampleLines(List<String> readme) {
        int start = readme.indexOf("```java");
        List<String> rest = readme.subList(start + 1, readme.size());
        return start < 0 ? List.of() : rest.subList(0, rest.indexOf("```"));
    }

    private static void runExample(List<String> lines) throws ReflectiveOperationException {
        TransformMonoid x = null;
        int asked = 0;
        for (String line : lines) {
            Matcher making = MAKING.matcher(line);
            Matcher call = CALL.matcher(line);
            if (making.matches()) {
                x = new TransformMonoid(Integer.parseInt(making.group(1)));
            } else if (call.matches() && x != null) {
                due("README: " + line, answer(x, call.group(1), call.group(2)), Integer.parseInt(call.group(3)));
                asked++;
            } else {
                wrong("README: not a call with its answer: " + line);
            }
        }
        if (asked == 0) {
            wrong("README: no example");
        }
    }

    private static int answer(TransformMonoid x, String name, String given) throws ReflectiveOperationException {
        Object[] arguments = Arrays.stream(given.split(",")).map(String::trim).filter(number -> !number.isEmpty())
            .map(Integer::valueOf).toArray();
        Class<?>[] types = new Class<?>[arguments.length];
        Arrays.fill(types, int.class);
        return (int) TransformMonoid.class.getMethod(name, types).invoke(x, arguments);
    }

    private static List<String> tableCalls(List<String> readme) {
        Pattern row = Pattern.compile("\\| `(\\w+)\\(([^)]*)\\)` \\|.*");
        List<String> calls = new ArrayList<>();
        for (String line : readme) {
            Matcher matcher = row.matcher(line);
            if (matcher.matches()) {
                int parameters = matcher.group(2).isEmpty() ? 0 : matcher.group(2).split(",").length;
                calls.add(matcher.group(1) + "/" + parameters);
            }
        }
        return calls;
    }

    private static void checkTable(List<String> readme) {
        List<String> named = tableCalls(readme);
        List<String> shown = new ArrayList<>();
        for (Method method : TransformMonoid.class.getDeclaredMethods()) {
            if (Modifier.isPublic(method.getModifiers())) {
                shown.add(method.getName() + "/" + method.getParameterCount());
            }
        }
        named.sort(null);
        shown.sort(null);
        if (!named.equals(shown)) {
            wrong("README: the table names " + named + ", the class has " + shown);
        }
    }

    public static void main(String[] args) throws IOException, ReflectiveOperationException {
        List<String> readme = Files.readAllLines(README);
        runExample(exampleLines(readme));
        checkTable(readme);
        end();
    }
}
