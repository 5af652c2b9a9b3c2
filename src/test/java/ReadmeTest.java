import java.lang.reflect.Method;
import java.nio.file.Files;
import java.nio.file.Path;
import java.util.HashMap;
import java.util.Map;
import java.util.Set;
import java.util.TreeSet;
import java.util.regex.Matcher;
import java.util.regex.Pattern;

/** Makes the calls of README.md's example, each of which must answer what stands beside it. */
public final class ReadmeTest {
    private static final Pattern ROW =
            Pattern.compile("(?:int (\\w+) = )?x\\.(\\w+)\\(([^)]*)\\);\\s*// ([^:]+): .*");

    private static int wrong = 0;

    public static void main(String[] args) throws Exception {
        HeapSuite x = new HeapSuite();
        Map<String, Integer> known = new HashMap<>();
        Set<String> called = new TreeSet<>();
        String example = Files.readString(Path.of("README.md")).split("```java\n")[1].split("```")[0];
        for (String line : example.split("\n")) {
            if (line.equals("HeapSuite x = new HeapSuite();")) {
                continue;
            }
            Matcher row = ROW.matcher(line);
            if (!row.matches()) {
                fault(line, "is no call with its answer");
                continue;
            }
            Object got = answer(x, row.group(2), row.group(3), known);
            if (!got.toString().equals(due(row.group(4)))) {
                fault(line, "answered " + got);
            }
            if (row.group(1) != null) {
                known.put(row.group(1), (Integer) got);
            }
            called.add(row.group(2));
        }
        for (Method method : HeapSuite.class.getMethods()) {
            boolean own = method.getDeclaringClass() == HeapSuite.class;
            if (own && !called.contains(method.getName())) {
                fault(method.getName(), "is not in the example");
            }
        }
        System.out.println(wrong == 0 ? "README.md's example is right" : wrong + " faults in README.md's example");
        if (wrong != 0) {
            System.exit(1);
        }
    }

    private static void fault(String where, String what) {
        wrong++;
        System.out.println(where + " -- " + what);
    }

    private static Object answer(HeapSuite x, String name, String words, Map<String, Integer> known)
            throws ReflectiveOperationException {
        String[] parts = words.isEmpty() ? new String[0] : words.split(", ");
        Class<?>[] types = new Class<?>[parts.length];
        Object[] values = new Object[parts.length];
        for (int i = 0; i < parts.length; i++) {
            types[i] = int.class;
            values[i] = known.containsKey(parts[i]) ? known.get(parts[i]) : Integer.valueOf(parts[i]);
        }
        return HeapSuite.class.getMethod(name, types).invoke(x, values);
    }

    private static String due(String word) {
        switch (word) {
            case "BAD":
                return "" + HeapSuite.BAD;
            case "FULL":
                return "" + HeapSuite.FULL;
            case "NONE":
                return "" + HeapSuite.NONE;
            default:
                return word;
        }
    }
}
