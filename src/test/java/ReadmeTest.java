import java.io.IOException;
import java.lang.reflect.Method;
import java.lang.reflect.Modifier;
import java.nio.file.Files;
import java.nio.file.Path;
import java.util.HashMap;
import java.util.HashSet;
import java.util.Map;
import java.util.Set;
import java.util.regex.Matcher;
import java.util.regex.Pattern;

/** The calls that README.md shows answer what stands behind them, and no method is left out. */
public final class ReadmeTest {
    private static final Pattern CALL =
        Pattern.compile("(?:int (\\w+) = )?yard\\.(\\w+)\\(([^)]*)\\);\\s*// (-?\\d+)(?::.*)?");
    private static final Due DUE = new Due("ReadmeTest");

    private static final OctagonYard YARD = new OctagonYard();
    private static final Map<String, Method> METHODS = new HashMap<>();
    private static final Map<String, Integer> NAMED = new HashMap<>();
    private static final Set<String> CALLED = new HashSet<>();

    public static void main(String[] args) throws IOException, ReflectiveOperationException {
        for (Method m : OctagonYard.class.getDeclaredMethods()) {
            if (Modifier.isPublic(m.getModifiers())) {
                METHODS.put(m.getName(), m);
            }
        }
        String text = Files.readString(Path.of("README.md"));
        int start = text.indexOf("```java\n");
        int end = text.indexOf("```\n", start + 1);
        DUE.holds("README.md shows calls", start >= 0 && end > start);
        for (String line : text.substring(start, end).split("\n")) {
            showLine(line);
        }
        DUE.holds("each method is shown, but " + missing(), missing().isEmpty());
        for (int answer = -1; answer >= -5; answer--) {
            DUE.holds("README.md tells what " + answer + " means", text.contains("\n| " + answer + " |"));
        }
        DUE.end();
    }

    private static void showLine(String line) throws ReflectiveOperationException {
        Matcher call = CALL.matcher(line);
        if (!call.matches()) {
            DUE.holds("'" + line + "' is no call", !line.contains("yard."));
            return;
        }
        Method method = METHODS.get(call.group(2));
        DUE.holds(line + ": there is such a method", method != null);
        if (method == null) {
            return;
        }
        long got = ((Number) method.invoke(YARD, arguments(call.group(3)))).longValue();
        DUE.is(line, Long.parseLong(call.group(4)), got);
        CALLED.add(call.group(2));
        if (call.group(1) != null) {
            NAMED.put(call.group(1), (int) got);
        }
    }

    private static Object[] arguments(String list) {
        if (list.isEmpty()) {
            return new Object[0];
        }
        String[] words = list.split(", ");
        Object[] values = new Object[words.length];
        for (int i = 0; i < words.length; i++) {
            values[i] = value(words[i]);
        }
        return values;
    }

    private static Object value(String word) {
        if (word.equals("true") || word.equals("false")) {
            return word.equals("true");
        }
        return NAMED.containsKey(word) ? NAMED.get(word) : Integer.valueOf(word);
    }

    private static Set<String> missing() {
        Set<String> left = new HashSet<>(METHODS.keySet());
        left.removeAll(CALLED);
        return left;
    }
}
