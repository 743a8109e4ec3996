import java.io.IOException;
import java.lang.reflect.Method;
import java.lang.reflect.Modifier;
import java.nio.file.Files;
import java.nio.file.Path;
import java.util.HashMap;
import java.util.HashSet;
import java.util.List;
import java.util.Map;
import java.util.Set;
import java.util.regex.Matcher;
import java.util.regex.Pattern;

/** The example of README.md, line by line: each answer that stands beside a call is the one that is given. */
public final class ReadmeTests extends Checks {
    private static final Path README = Path.of("README.md");
    private static final String MAKES = "PatternForge forge = new PatternForge();";
    private static final Pattern CALL_LINE = Pattern.compile(
            "(?:int (\\w+) = )?forge\\.(\\w+)\\(([^()]*)\\);(?:\\s*// (?:PatternForge\\.(\\w+)|(-?\\d+): .+))?");

    private final Map<String, Integer> names = new HashMap<>();
    private final Set<String> called = new HashSet<>();
    private PatternForge forge;
    private int answers = 0;

    private static void must(String what, boolean holds) {
        if (!holds) {
            wrong++;
            System.out.println("does not hold: " + what);
        }
    }

    private static Method methodOf(String name) {
        for (Method method : PatternForge.class.getDeclaredMethods()) {
            if (Modifier.isPublic(method.getModifiers()) && method.getName().equals(name)) {
                return method;
            }
        }
        throw new IllegalArgumentException("no method " + name);
    }

    private Object[] numbers(String text) {
        String[] parts = text.isBlank() ? new String[0] : text.split(", ");
        Object[] numbers = new Object[parts.length];
        for (int i = 0; i < parts.length; i++) {
            numbers[i] = names.containsKey(parts[i]) ? names.get(parts[i]) : Integer.valueOf(parts[i]);
        }
        return numbers;
    }

    private void call(String line, Matcher parts) throws ReflectiveOperationException {
        called.add(parts.group(2));
        Number answer = (Number) methodOf(parts.group(2)).invoke(forge, numbers(parts.group(3)));
        if (parts.group(1) != null) {
            names.put(parts.group(1), answer.intValue());
        }
        if (parts.group(4) != null) {
            answers++;
            due(line, answer.longValue(), PatternForge.class.getField(parts.group(4)).getInt(null));
        } else if (parts.group(5) != null) {
            answers++;
            due(line, answer.longValue(), Long.parseLong(parts.group(5)));
        } else {
            must("taken by the class: " + line, answer.longValue() >= 0);
        }
    }

    private void line(String line) throws ReflectiveOperationException {
        if (line.isBlank() || line.startsWith("//")) {
            return;
        }
        if (line.equals(MAKES)) {
            forge = new PatternForge();
            return;
        }
        Matcher parts = CALL_LINE.matcher(line);
        // A line that is not understood would be a line that is not tested.
        must("understood: " + line, parts.matches());
        if (parts.matches()) {
            call(line, parts);
        }
    }

    private void example(List<String> text) throws ReflectiveOperationException {
        boolean inside = false;
        for (String line : text) {
            if (line.startsWith("```")) {
                inside = line.equals("```java");
            } else if (inside) {
                line(line);
            }
        }
        must("there is an example", answers > 0);
    }

    private void eachMethod(List<String> text) {
        String all = String.join("\n", text);
        for (Method method : PatternForge.class.getDeclaredMethods()) {
            if (Modifier.isPublic(method.getModifiers())) {
                must(method.getName() + " is told of", all.contains("| `" + method.getName() + "("));
                must(method.getName() + " is in the example", called.contains(method.getName()));
            }
        }
    }

    public static void main(String[] args) throws IOException, ReflectiveOperationException {
        List<String> text = Files.readAllLines(README);
        ReadmeTests tests = new ReadmeTests();
        tests.example(text);
        tests.eachMethod(text);
        end();
    }
}
