import java.io.IOException;
import java.lang.reflect.Method;
import java.lang.reflect.Modifier;
import java.nio.file.Files;
import java.nio.file.Path;
import java.util.Arrays;
import java.util.Map;
import java.util.Set;
import java.util.TreeSet;
import java.util.regex.Matcher;
import java.util.regex.Pattern;

/** The example of README.md, call by call: what a reader tries first answers as it says there. */
public final class ReadmeTest extends Asked {
    private static final Pattern MADE = Pattern.compile("PlaySpans keys = new PlaySpans\\((\\d+)\\);.*");
    private static final Pattern CALL = Pattern.compile("keys\\.(\\w+)\\(([-\\d, ]*)\\); *// (-?\\d+|[A-Z]+): .*");
    private static final Map<String, Integer> REFUSALS = Map.of("BAD", BAD, "NONE", NONE, "NOT", NOT, "FULL", FULL);

    public static void main(String[] args) throws IOException, ReflectiveOperationException {
        String readme = Files.readString(Path.of("README.md"));
        everyMethodIsNamed(readme);
        example(readme);
        end();
    }

    private static void everyMethodIsNamed(String readme) {
        Set<String> missing = new TreeSet<>();
        for (Method m : PlaySpans.class.getDeclaredMethods()) {
            if (!Modifier.isPrivate(m.getModifiers()) && !readme.contains("`" + m.getName() + "(")) {
                missing.add(m.getName());
            }
        }
        due("methods that README.md does not name: " + missing, missing.size(), 0);
    }

    private static void example(String readme) throws ReflectiveOperationException {
        Matcher block = Pattern.compile("(?s)```java\n(.*?)```").matcher(readme);
        due("README.md has an example", block.find() ? 1 : 0, 1);
        PlaySpans keys = null;
        int calls = 0;
        for (String line : block.group(1).split("\n")) {
            Matcher made = MADE.matcher(line);
            Matcher call = CALL.matcher(line);
            if (made.matches()) {
                keys = new PlaySpans(Integer.parseInt(made.group(1)));
            } else if (call.matches() && keys != null) {
                String want = call.group(3);
                int due = REFUSALS.containsKey(want) ? REFUSALS.get(want) : Integer.parseInt(want);
                due(line, ask(keys, call.group(1), numbers(call.group(2))), due);
                calls++;
            } else {
                due("a line of the example that is no call: " + line, 0, 1);
            }
        }
        due("the example has calls", calls > 0 ? 1 : 0, 1);
    }

    private static int[] numbers(String text) {
        return text.isBlank() ? new int[0] : Arrays.stream(text.split(",")).mapToInt(n -> Integer.parseInt(n.trim())).toArray();
    }

    private static int ask(PlaySpans keys, String name, int[] numbers) throws ReflectiveOperationException {
        Class<?>[] types = new Class<?>[numbers.length];
        Arrays.fill(types, int.class);
        Object[] boxed = Arrays.stream(numbers).boxed().toArray();
        return (Integer) PlaySpans.class.getMethod(name, types).invoke(keys, boxed);
    }
}
