import java.lang.reflect.Method;
import java.nio.file.Files;
import java.nio.file.Path;
import java.util.HashMap;
import java.util.List;
import java.util.Map;
import java.util.TreeSet;
import java.util.regex.Matcher;
import java.util.regex.Pattern;

/** README.md: each call of its examples answers what stands behind it, and its table names each call of the face. */
public final class ReadmeTest {
    private static final Pattern CALL = Pattern.compile("(?:int (\\w+) = )?x\\.(\\w+)\\((.*?)\\); *// ([^ :]+)(?:[ :].*)?");
    private static final Pattern ROW = Pattern.compile("\\| `(\\w+)\\((.*?)\\)` \\| .+ \\| .+ \\|");

    private final Map<String, Long> names = new HashMap<>();
    private OrderEcho x;
    private int calls;

    public static void main(String[] args) throws Exception {
        List<String> lines = Files.readAllLines(Path.of("README.md"));
        Check.holds("examples were found", new ReadmeTest().examples(lines) > 50);
        table(lines);
        Check.end("ReadmeTest");
    }

    private int examples(List<String> lines) throws Exception {
        boolean java = false;
        for (String line : lines) {
            if (line.startsWith("```")) {
                java = line.equals("```java");
            } else if (java && line.equals("OrderEcho x = new OrderEcho();")) {
                begin();
            } else if (java) {
                example(line);
            }
        }
        return calls;
    }

    private void begin() {
        x = new OrderEcho();
        names.clear();
        names.put("NONE", (long) OrderEcho.NONE);
        names.put("BAD", (long) OrderEcho.BAD);
        names.put("STATE", (long) OrderEcho.STATE);
        names.put("FULL", (long) OrderEcho.FULL);
        names.put("NO", OrderEcho.NO);
        names.put("SPENT", OrderEcho.SPENT);
    }

    private void example(String line) throws Exception {
        Matcher m = CALL.matcher(line);
        boolean fits = m.matches() && x != null;
        Check.holds("a call and its answer: " + line, fits);
        if (!fits) {
            return;
        }
        long got = call(m.group(2), m.group(3));
        Check.due(line, got, number(m.group(4)));
        if (m.group(1) != null) {
            names.put(m.group(1), got);
        }
        calls++;
    }

    private long call(String name, String text) throws Exception {
        String[] parts = text.isEmpty() ? new String[0] : text.split(", ");
        Method method = methodOf(name);
        Class<?>[] types = method.getParameterTypes();
        Object[] values = new Object[parts.length];
        for (int i = 0; i < parts.length; i++) {
            long v = number(parts[i]);
            values[i] = types[i] == int.class ? (Object) Math.toIntExact(v) : (Object) v;
        }
        return ((Number) method.invoke(x, values)).longValue();
    }

    private long number(String text) {
        return names.containsKey(text) ? names.get(text) : Long.decode(text.replace("L", ""));
    }

    private static Method methodOf(String name) {
        for (Method m : OrderEcho.class.getDeclaredMethods()) {
            if (m.getName().equals(name)) {
                return m;
            }
        }
        throw new IllegalArgumentException("README.md names a call that is not there: " + name);
    }

    private static void table(List<String> lines) {
        TreeSet<String> left = new TreeSet<>();
        for (Method m : OrderEcho.class.getMethods()) {
            if (m.getDeclaringClass() == OrderEcho.class) {
                left.add(m.getName() + " with " + m.getParameterCount());
            }
        }
        Check.due("calls of the face", left.size(), 33);
        for (String line : lines) {
            Matcher m = ROW.matcher(line);
            if (m.matches()) {
                int many = m.group(2).isEmpty() ? 0 : m.group(2).split(", ").length;
                Check.holds("a row of its own: " + line, left.remove(m.group(1) + " with " + many));
            }
        }
        Check.holds("calls without a row: " + left, left.isEmpty());
    }
}
