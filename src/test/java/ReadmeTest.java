import java.io.IOException;
import java.lang.reflect.Method;
import java.lang.reflect.Modifier;
import java.nio.file.Files;
import java.nio.file.Path;
import java.util.HashMap;
import java.util.List;
import java.util.Map;
import java.util.Set;
import java.util.TreeSet;
import java.util.regex.Matcher;
import java.util.regex.Pattern;

/** README.md: its example answers as its comments say, and its tables name every call of the face as it is. */
public final class ReadmeTest {
    private static final Pattern CALL = Pattern.compile("^(?:int (\\w) = )?x\\.(\\w+)\\((.*?)\\);\\s*// .*: (-?\\d+)$");
    private static final Pattern ROW = Pattern.compile("^\\| `(\\w+)\\((.*?)\\)` \\|");

    private static final Map<String, Method> FACE = new HashMap<>();

    public static void main(String[] args) throws IOException, ReflectiveOperationException {
        for (Method m : KingsBalance.class.getDeclaredMethods()) {
            if (Modifier.isPublic(m.getModifiers())) FACE.put(m.getName(), m);
        }
        List<String> lines = Files.readAllLines(Path.of("README.md"));
        example(lines);
        tables(lines);
        Due.end("ReadmeTest");
    }

    private static void example(List<String> lines) throws ReflectiveOperationException {
        KingsBalance x = new KingsBalance();
        Map<String, Integer> named = new HashMap<>();
        int calls = 0;
        for (String line : lines) {
            if (line.contains("x.") && line.contains("//")) calls++;
            Matcher m = CALL.matcher(line);
            if (!m.matches()) continue;
            calls--;
            long answer = ((Number) call(x, m.group(2), m.group(3), named)).longValue();
            if (m.group(1) != null) named.put(m.group(1), (int) answer);
            Due.is("the example's " + line, answer, Long.parseLong(m.group(4)));
        }
        Due.is("lines of the example that tell no answer", calls, 0);
    }

    private static Object call(KingsBalance x, String name, String words, Map<String, Integer> named) throws ReflectiveOperationException {
        Method m = FACE.get(name);
        Class<?>[] types = m.getParameterTypes();
        String[] parts = types.length == 0 ? new String[0] : words.split(", ");
        Object[] values = new Object[types.length];
        for (int i = 0; i < types.length; i++) {
            if (types[i] == long.class) values[i] = Long.decode(parts[i].replace("L", ""));
            else if (types[i] == boolean.class) values[i] = Boolean.valueOf(parts[i]);
            else values[i] = named.containsKey(parts[i]) ? named.get(parts[i]) : Integer.decode(parts[i]);
        }
        return m.invoke(x, values);
    }

    private static void tables(List<String> lines) {
        Set<String> rows = new TreeSet<>(), face = new TreeSet<>();
        for (String line : lines) {
            Matcher m = ROW.matcher(line);
            if (m.find()) rows.add(m.group(1) + " " + (m.group(2).isEmpty() ? 0 : m.group(2).split(", ").length));
        }
        for (Method m : FACE.values()) face.add(m.getName() + " " + m.getParameterCount());
        for (String call : face) Due.is("the tables name " + call, rows.contains(call) ? 1 : 0, 1);
        for (String call : rows) Due.is("there is a " + call, face.contains(call) ? 1 : 0, 1);
    }
}
