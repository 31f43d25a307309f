import java.lang.reflect.Method;
import java.lang.reflect.Modifier;
import java.nio.file.Files;
import java.nio.file.Path;
import java.util.List;
import java.util.Map;
import java.util.TreeMap;
import java.util.regex.Matcher;
import java.util.regex.Pattern;

/** README.md tells the truth: its calls answer what stands behind them, and its tables have every call of the face. */
public final class ReadmeTest {
    private static final Pattern CALL = Pattern.compile("ring\\.(\\w+)\\(([^)]*)\\);\\s*// (-?\\d+|[A-Z]+)(:.*)?");
    private static final Pattern LISTED = Pattern.compile("\\| `(\\w+)\\(([^)]*)\\)` \\|.*");

    private static int wrong = 0;

    private static void must(boolean holds, String what) {
        if (!holds) {
            wrong++;
            System.out.println("README.md: " + what);
        }
    }

    public static void main(String[] args) throws Exception {
        List<String> lines = Files.readAllLines(Path.of("README.md"));
        Map<String, Method> face = new TreeMap<>();
        for (Method m : ParcelRing.class.getDeclaredMethods()) if (Modifier.isPublic(m.getModifiers())) face.put(m.getName(), m);
        int made = calls(lines, face);
        listed(lines, face);
        must(made >= 50, "only " + made + " calls were found in it");
        System.out.println(wrong == 0 ? made + " calls of README.md answer as it says" : wrong + " lines of README.md are wrong");
        if (wrong != 0) System.exit(1);
    }

    private static int calls(List<String> lines, Map<String, Method> face) throws Exception {
        boolean inside = false;
        int made = 0;
        ParcelRing ring = new ParcelRing();
        for (String line : lines) {
            if (line.startsWith("```")) {
                inside = line.equals("```java");
            } else if (inside && line.equals("ParcelRing ring = new ParcelRing();")) {
                ring = new ParcelRing();
            } else if (inside) {
                Matcher call = CALL.matcher(line);
                Method m = call.matches() ? face.get(call.group(1)) : null;
                String[] words = m == null || call.group(2).isEmpty() ? new String[0] : call.group(2).split(", ");
                if (m == null || words.length != m.getParameterCount()) {
                    must(false, "no call: " + line);
                    continue;
                }
                Object[] arguments = new Object[words.length];
                for (int i = 0; i < words.length; i++) arguments[i] = number(words[i]);
                int got = (Integer) m.invoke(ring, arguments);
                must(got == number(call.group(3)), line + " .. answered " + got);
                made++;
            }
        }
        return made;
    }

    private static int number(String written) throws Exception {
        String word = written.replace("ParcelRing.", "");
        return word.matches("[A-Z]+") ? ParcelRing.class.getField(word).getInt(null) : Integer.decode(word);
    }

    private static void listed(List<String> lines, Map<String, Method> face) {
        Map<String, Integer> found = new TreeMap<>();
        for (String line : lines) {
            Matcher call = LISTED.matcher(line);
            if (!call.matches()) continue;
            must(!found.containsKey(call.group(1)), call.group(1) + " is listed twice");
            found.put(call.group(1), call.group(2).isEmpty() ? 0 : call.group(2).split(", ").length);
        }
        Map<String, Integer> due = new TreeMap<>();
        face.forEach((name, m) -> due.put(name, m.getParameterCount()));
        must(found.equals(due), "it lists " + found + ", due is " + due);
    }
}
