import java.io.IOException;
import java.lang.reflect.Method;
import java.lang.reflect.Modifier;
import java.nio.file.Files;
import java.nio.file.Path;
import java.util.regex.Matcher;
import java.util.regex.Pattern;

/** README.md says how to use the class: its calls answer as it says, and it names all calls and all test files. */
public final class ReadmeTest {
    private static final Due due = new Due("ReadmeTest");
    private static final Pattern CALL = Pattern.compile("x\\.(\\w+)\\((.*?)\\);\\s+// (-?\\d+)\\b.*");

    public static void main(String[] args) throws ReflectiveOperationException, IOException {
        String readme = Files.readString(Path.of(System.getProperty("readme")));
        calls(readme);
        table(readme);
        tests(readme);
        due.end();
    }

    /** Each line that begins with x. is a call, with its answer behind it. */
    private static void calls(String readme) throws ReflectiveOperationException {
        OpenOrTake x = new OpenOrTake();
        int calls = 0;
        for (String line : readme.split("\n")) {
            if (line.startsWith("x.")) {
                Matcher call = CALL.matcher(line);
                boolean isCall = call.matches();
                due.is("a call with its answer: " + line, isCall ? 1 : 0, 1);
                if (isCall) {
                    due.is(line, answer(x, call.group(1), call.group(2)), Long.parseLong(call.group(3)));
                    calls++;
                }
            }
        }
        due.is("there are calls", calls > 0 ? 1 : 0, 1);
    }

    private static long answer(OpenOrTake x, String name, String told) throws ReflectiveOperationException {
        String[] words = told.isEmpty() ? new String[0] : told.split(", ");
        Method method = method(name);
        Object[] values = new Object[words.length];
        for (int i = 0; i < words.length; i++) {
            long value = words[i].startsWith("'") ? words[i].charAt(1) : Long.parseLong(words[i]);
            if (method.getParameterTypes()[i] == int.class) {
                values[i] = (int) value;
            } else {
                values[i] = value;
            }
        }
        return ((Number) method.invoke(x, values)).longValue();
    }

    private static Method method(String name) {
        for (Method method : OpenOrTake.class.getDeclaredMethods()) {
            if (method.getName().equals(name)) {
                return method;
            }
        }
        throw new IllegalArgumentException("README.md: there is no call " + name);
    }

    /** A row for each call, with as many arguments as it has. */
    private static void table(String readme) {
        int rows = 0;
        Matcher row = Pattern.compile("(?m)^\\| `(\\w+)\\(([^)]*)\\)` \\| .* \\| (\\d+) \\|$").matcher(readme);
        while (row.find()) {
            rows++;
            int arguments = row.group(2).isEmpty() ? 0 : row.group(2).split(", ").length;
            due.is("arguments of " + row.group(1), arguments, method(row.group(1)).getParameterCount());
            due.is("promise of " + row.group(1), Long.parseLong(row.group(3)), rows + 1);
        }
        int methods = 0;
        for (Method method : OpenOrTake.class.getDeclaredMethods()) {
            if (Modifier.isPublic(method.getModifiers())) {
                methods++;
                due.is("a row for " + method.getName(), readme.contains("\n| `" + method.getName() + "(") ? 1 : 0, 1);
            }
        }
        due.is("rows", rows, methods);
    }

    private static void tests(String readme) throws IOException {
        try (var files = Files.list(Path.of(System.getProperty("readme")).resolveSibling("src/test/java"))) {
            for (Path file : files.toList()) {
                String name = file.getFileName().toString().replace(".java", "");
                if (name.endsWith("Test")) {
                    boolean isNamed = readme.contains("`" + name) || readme.contains("/" + name);
                    due.is("README.md names " + name, isNamed ? 1 : 0, 1);
                }
            }
        }
    }
}
