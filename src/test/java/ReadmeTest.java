import java.io.IOException;
import java.lang.reflect.InvocationTargetException;
import java.lang.reflect.Method;
import java.nio.file.Files;
import java.nio.file.Paths;
import java.util.HashMap;
import java.util.HashSet;
import java.util.Map;
import java.util.Set;
import java.util.regex.Matcher;
import java.util.regex.Pattern;

/** README.md's example answers what it says, and its table names each call of the face. */
public final class ReadmeTest {
    private static final Pattern CALL = Pattern.compile("w\\.(\\w+)\\(([^)]*)\\);\\s*// (-?\\d+)\\b.*");
    private static final Pattern NAMED = Pattern.compile("`(\\w+)(?:\\(\\d\\))?`");

    private ReadmeTest() {
    }

    public static void main(String[] args) throws IOException, ReflectiveOperationException {
        InvariantWorks works = new InvariantWorks();
        Map<String, Method> face = face();
        Set<String> named = new HashSet<>();
        int calls = 0;
        for (String line : Files.readAllLines(Paths.get("README.md"))) {
            Matcher call = CALL.matcher(line);
            if (call.find()) {
                calls++;
                Checks.due(line, answer(works, face.get(call.group(1)), call.group(2)), Integer.parseInt(call.group(3)));
            } else if (line.contains(" w.") || line.startsWith("w.")) {
                Checks.holds("an answer stands behind: " + line, false);
            }
            Matcher name = NAMED.matcher(line);
            while (line.startsWith("|") && name.find()) {
                named.add(name.group(1));
            }
        }
        Checks.holds("there is an example: " + calls, calls > 10);
        for (String name : face.keySet()) {
            Checks.holds("README.md names " + name, named.contains(name));
        }
        Checks.end();
    }

    private static Map<String, Method> face() {
        Map<String, Method> face = new HashMap<>();
        for (Method m : InvariantWorks.class.getMethods()) {
            if (m.getDeclaringClass() == InvariantWorks.class) {
                face.put(m.getName(), m);
            }
        }
        return face;
    }

    private static int answer(InvariantWorks works, Method method, String told) throws IllegalAccessException, InvocationTargetException {
        String[] parts = told.isEmpty() ? new String[0] : told.split(", ");
        Object[] arguments = new Object[parts.length];
        for (int i = 0; i < parts.length; i++) {
            arguments[i] = Long.decode(parts[i]).intValue();
        }
        return (Integer) method.invoke(works, arguments);
    }
}
