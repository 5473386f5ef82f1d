import java.io.IOException;
import java.lang.reflect.InvocationTargetException;
import java.lang.reflect.Method;
import java.lang.reflect.Modifier;
import java.nio.charset.StandardCharsets;
import java.nio.file.Files;
import java.nio.file.Path;
import java.util.ArrayList;
import java.util.HashMap;
import java.util.List;
import java.util.Map;
import java.util.Set;
import java.util.TreeSet;
import java.util.regex.Matcher;
import java.util.regex.Pattern;

/**
 * Makes the calls of the example in README.md, read from there line by line, and looks whether each
 * answers what the README names behind it. It is run from the project's own folder.
 */
public final class ReadmeTest {
    private static final String MADE = "CycleCutter x = new CycleCutter();";
    private static final Pattern CALL = Pattern.compile(
            "(?:int (\\w+) = )?x\\.(\\w+)\\(([^()]*)\\);\\s+// (-?\\d+)(?:: \\S.*)?");

    private final CycleCutter x = new CycleCutter();
    private final Map<String, Object> names = new HashMap<>();
    private final Set<String> called = new TreeSet<>();

    public static void main(String[] args) throws IOException, IllegalAccessException {
        List<String> example = exampleOf(Path.of("README.md"));
        Check.due("the example makes an object first", MADE, example.isEmpty() ? "" : example.get(0));
        ReadmeTest test = new ReadmeTest();
        for (int i = 1; i < example.size(); i++) {
            test.make(example.get(i));
        }
        Check.due("what the example calls", face().toString(), test.called.toString());
        Check.end();
    }

    /** The lines of all Java in the README, empty ones left out. */
    private static List<String> exampleOf(Path readme) throws IOException {
        List<String> lines = new ArrayList<>();
        boolean inside = false;
        for (String line : Files.readAllLines(readme, StandardCharsets.UTF_8)) {
            if (line.startsWith("```")) {
                inside = line.equals("```java");
            } else if (inside && !line.isBlank()) {
                lines.add(line.strip());
            }
        }
        return lines;
    }

    private void make(String line) throws IllegalAccessException {
        Matcher call = CALL.matcher(line);
        if (!call.matches()) {
            Check.due(line, "a call with its answer", "neither");
            return;
        }
        String answer = answerOf(call.group(2), argumentsOf(call.group(3)));
        Check.due(line, call.group(4), answer);
        called.add(call.group(2));
        if (call.group(1) != null) {
            Object before = names.put(call.group(1), Integer.valueOf(call.group(4)));
            Check.due(line, "a new name", before == null ? "a new name" : "a name twice");
        }
    }

    private Object[] argumentsOf(String written) {
        if (written.isEmpty()) {
            return new Object[0];
        }
        String[] words = written.split(", ");
        Object[] arguments = new Object[words.length];
        for (int i = 0; i < words.length; i++) {
            arguments[i] = argumentOf(words[i]);
        }
        return arguments;
    }

    private Object argumentOf(String word) {
        if (word.equals("true") || word.equals("false")) {
            return Boolean.valueOf(word);
        }
        return word.matches("-?\\d+") ? Integer.valueOf(word) : names.get(word);
    }

    private String answerOf(String name, Object[] arguments) throws IllegalAccessException {
        for (Method method : CycleCutter.class.getMethods()) {
            if (method.getName().equals(name) && method.getParameterCount() == arguments.length) {
                try {
                    return String.valueOf(method.invoke(x, arguments));
                } catch (InvocationTargetException e) {
                    return "throws." + e.getCause().getClass().getSimpleName();
                } catch (IllegalArgumentException e) {
                    return "no such arguments";
                }
            }
        }
        return "no such method";
    }

    private static Set<String> face() {
        Set<String> all = new TreeSet<>();
        for (Method method : CycleCutter.class.getDeclaredMethods()) {
            if (Modifier.isPublic(method.getModifiers())) {
                all.add(method.getName());
            }
        }
        return all;
    }
}
