import java.io.IOException;
import java.lang.reflect.Method;
import java.lang.reflect.Modifier;
import java.nio.file.Files;
import java.nio.file.Path;
import java.util.Arrays;
import java.util.HashMap;
import java.util.HashSet;
import java.util.Map;
import java.util.Set;
import java.util.regex.Matcher;
import java.util.regex.Pattern;

/** README.md: each call in it answers what stands behind it there, and each method is in it. */
public final class ReadmeTest {
    private static final Path README = Path.of("README.md");
    private static final String START = "RodBench bench = new RodBench();";
    private static final Pattern CALL = Pattern.compile(
        "(?:int (\\w+) = )?bench\\.(\\w+)\\((.*)\\);\\s+// (-?\\d+|[A-Z]+)(?::? .*)?");

    private final Map<String, Long> names = new HashMap<>();
    private final Set<String> used = new HashSet<>();
    private RodBench bench = null;

    private ReadmeTest() throws ReflectiveOperationException {
        for (String constant : new String[] {"NONE", "BAD", "STATE", "FULL", "NO"}) {
            names.put(constant, RodBench.class.getField(constant).getLong(null));
        }
    }

    public static void main(String[] args) throws IOException, ReflectiveOperationException {
        new ReadmeTest().run();
        Due.end();
    }

    private void run() throws IOException, ReflectiveOperationException {
        boolean isJava = false;
        for (String line : Files.readAllLines(README)) {
            if (line.startsWith("```")) {
                isJava = line.equals("```java");
            } else if (isJava && line.equals(START)) {
                bench = new RodBench();
            } else if (isJava) {
                call(line);
            }
        }
        for (Method method : methods()) {
            Due.holds(method.getName() + " is in README.md", used.contains(method.getName()));
        }
    }

    private static Method[] methods() {
        return Arrays.stream(RodBench.class.getDeclaredMethods())
            .filter(method -> Modifier.isPublic(method.getModifiers())).toArray(Method[]::new);
    }

    private void call(String line) throws ReflectiveOperationException {
        Matcher parts = CALL.matcher(line);
        if (!parts.matches() || bench == null) {
            Due.holds("read: " + line, false);
            return;
        }
        long got = answer(parts.group(2), parts.group(3));
        String due = parts.group(4);
        Due.is(line, number(due), got);
        used.add(parts.group(2));
        if (parts.group(1) != null) {
            names.put(parts.group(1), got);
        }
    }

    private long answer(String name, String list) throws ReflectiveOperationException {
        String[] words = list.isEmpty() ? new String[0] : list.split(", ");
        for (Method method : methods()) {
            if (method.getName().equals(name) && method.getParameterCount() == words.length) {
                Object[] arguments = new Object[words.length];
                for (int i = 0; i < words.length; i++) {
                    boolean isTruth = method.getParameterTypes()[i] == boolean.class;
                    arguments[i] = isTruth ? (Object) words[i].equals("true") : (Object) (int) number(words[i]);
                }
                return ((Number) method.invoke(bench, arguments)).longValue();
            }
        }
        throw new IllegalArgumentException("no such method: " + name);
    }

    private long number(String word) {
        return names.containsKey(word) ? names.get(word) : Long.parseLong(word);
    }
}
