import java.lang.reflect.Method;
import java.nio.file.Files;
import java.nio.file.Path;
import java.util.HashMap;
import java.util.HashSet;
import java.util.List;
import java.util.Map;
import java.util.Set;
import java.util.regex.Matcher;
import java.util.regex.Pattern;

/** The calls that README.md shows answer what it says. */
public final class ReadmeTest {
    private static final Check check = new Check();
    private static final Pattern ROW = Pattern.compile("x\\.(\\w+)\\(([^)]*)\\); +// (-?\\d+)( .*)?");

    public static void main(String[] args) throws Exception {
        Map<String, Method> face = new HashMap<>();
        for (Method m : CommaCopies.class.getMethods()) {
            face.put(m.getName(), m);
        }
        CommaCopies x = new CommaCopies();
        Set<String> shown = new HashSet<>();
        for (String line : Files.readAllLines(Path.of("README.md"))) {
            if (line.startsWith("x.")) {
                Matcher row = ROW.matcher(line);
                boolean told = row.matches();
                check.due("an answer is told: " + line, told ? 1 : 0, 1);
                if (told) {
                    Method m = face.get(row.group(1));
                    check.due(line, (int) m.invoke(x, arguments(m, row.group(2))), Integer.parseInt(row.group(3)));
                    shown.add(m.getName());
                }
            }
        }
        for (String call : List.of("type", "letter", "copyOf", "printed", "blamed", "holds", "bar", "put", "restore", "drop")) {
            check.due("README.md shows " + call, shown.contains(call) ? 1 : 0, 1);
        }
        check.end();
    }

    private static Object[] arguments(Method m, String told) {
        String[] parts = told.isEmpty() ? new String[0] : told.split(", ");
        Object[] values = new Object[parts.length];
        for (int k = 0; k < parts.length; k++) {
            long v = Long.decode(parts[k].replace("L", ""));
            if (m.getParameterTypes()[k] == long.class) {
                values[k] = v;
            } else {
                values[k] = (int) v;
            }
        }
        return values;
    }
}
