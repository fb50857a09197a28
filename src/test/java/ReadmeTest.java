import java.io.IOException;
import java.lang.reflect.Field;
import java.lang.reflect.Method;
import java.lang.reflect.Modifier;
import java.nio.file.Files;
import java.nio.file.Path;
import java.util.List;
import java.util.Set;
import java.util.TreeSet;
import java.util.regex.Matcher;
import java.util.regex.Pattern;

/** What README.md says of the class: its example's answers, and its tables of calls and constants. */
public final class ReadmeTest {
    private static final String MADE = "LeasedConfig config = new LeasedConfig();";
    // A call, its arguments, the answer, and behind a colon the constant of that name or other words.
    private static final Pattern CALL = Pattern.compile(
        "config\\.(\\w+)\\((.*)\\); +// (-?\\d+|true|false)(?:: (?:([A-Z_]+),)?.*)?");

    private ReadmeTest() {
    }

    public static void main(String[] args) throws IOException, ReflectiveOperationException {
        List<String> lines = Files.readAllLines(Path.of("README.md"));
        example(lines.subList(lines.indexOf("```java") + 1, lines.lastIndexOf("```")));
        callsTable(lines);
        constantsTable(lines);
        Due.finish();
    }

    private static void example(List<String> lines) throws ReflectiveOperationException {
        LeasedConfig config = new LeasedConfig();
        Set<String> called = new TreeSet<>();
        Due.due("the example begins with " + MADE, lines.get(0).equals(MADE), true);
        for (String line : lines.subList(1, lines.size())) {
            Matcher call = CALL.matcher(line);
            Due.due("the example has a call, and its answer, in: " + line, line.isEmpty() || call.matches(), true);
            if (call.matches()) {
                called.add(call.group(1));
                callOnce(config, line, call);
            }
        }
        for (Method method : publicMethods()) {
            Due.due("the example calls " + method.getName(), called.contains(method.getName()), true);
        }
    }

    private static void callOnce(LeasedConfig config, String line, Matcher call) throws ReflectiveOperationException {
        Object answer = methodNamed(call.group(1)).invoke(config, arguments(call.group(2)));
        Due.due("answers as the example says (and not " + answer + "): " + line,
            answer.toString().equals(call.group(3)), true);
        if (call.group(4) != null) {
            Due.due("names the constant of its answer: " + line,
                LeasedConfig.class.getField(call.group(4)).get(null).equals(answer), true);
        }
    }

    private static Object[] arguments(String text) {
        if (text.isEmpty()) {
            return new Object[0];
        }
        String[] parts = text.split(", ");
        Object[] arguments = new Object[parts.length];
        for (int i = 0; i < parts.length; i++) {
            if (parts[i].equals("true") || parts[i].equals("false")) {
                arguments[i] = Boolean.valueOf(parts[i]);
            } else {
                arguments[i] = Integer.valueOf(parts[i]);
            }
        }
        return arguments;
    }

    private static void callsTable(List<String> lines) {
        for (Method method : publicMethods()) {
            int parameters = method.getParameterCount();
            String names = parameters == 0 ? "" : "\\w+" + ", \\w+".repeat(parameters - 1);
            Due.due("rows on " + method.getName(), rows(lines, "\\| `" + method.getName() + "\\(" + names + "\\)` \\| .*"), 1);
        }
    }

    private static void constantsTable(List<String> lines) throws IllegalAccessException {
        for (Field field : LeasedConfig.class.getFields()) {
            String row = "\\| `" + field.getName() + "` \\| " + field.getInt(null) + " \\| .*";
            Due.due("rows on " + field.getName(), rows(lines, row), 1);
        }
    }

    private static long rows(List<String> lines, String pattern) {
        return lines.stream().filter(line -> line.matches(pattern)).count();
    }

    private static Method methodNamed(String name) {
        return publicMethods().stream().filter(method -> method.getName().equals(name)).findFirst().orElseThrow();
    }

    private static List<Method> publicMethods() {
        return List.of(LeasedConfig.class.getDeclaredMethods()).stream()
            .filter(method -> Modifier.isPublic(method.getModifiers())).toList();
    }
}
