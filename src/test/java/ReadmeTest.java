import java.io.IOException;
import java.lang.reflect.Method;
import java.nio.file.Files;
import java.nio.file.Path;
import java.util.List;
import java.util.Set;
import java.util.TreeSet;
import java.util.regex.Matcher;
import java.util.regex.Pattern;

/** The examples of README.md: each call answers the number that stands behind it. */
public final class ReadmeTest {
    private static final String NEW = "RaceFinder finder = new RaceFinder();";
    private static final Pattern CALL =
        Pattern.compile("finder\\.(\\w+)\\(([^)]*)\\); +// (-?\\d+|true|false): .+");

    private static RaceFinder finder;

    public static void main(String[] args) throws IOException, ReflectiveOperationException {
        Set<String> called = new TreeSet<>();
        boolean inExample = false;
        List<String> lines = Files.readAllLines(Path.of("README.md"));
        for (String line : lines) {
            if (line.startsWith("```")) {
                inExample = line.equals("```java");
                // Else an example could go on with the object of the one before.
                finder = null;
            } else if (inExample) {
                look(line, called);
            }
        }
        Set<String> all = new TreeSet<>();
        for (Method m : RaceFinder.class.getMethods()) {
            if (m.getDeclaringClass() == RaceFinder.class) {
                all.add(m.getName());
            }
        }
        Due.is("the examples call " + called + ", each call of the class", called.equals(all), true);
        Due.end();
    }

    private static void look(String line, Set<String> called) throws ReflectiveOperationException {
        if (line.equals(NEW)) {
            finder = new RaceFinder();
            return;
        }
        Matcher m = CALL.matcher(line);
        boolean readable = finder != null && m.matches();
        Due.is("a call on a new object with its answer: " + line, readable, true);
        if (readable) {
            called.add(m.group(1));
            String want = m.group(3);
            String got = String.valueOf(answer(m.group(1), m.group(2)));
            Due.is(line + " (answered " + got + ")", got.equals(want), true);
        }
    }

    private static Object answer(String name, String list) throws ReflectiveOperationException {
        String[] texts = list.isEmpty() ? new String[0] : list.split(", ");
        Class<?>[] types = new Class<?>[texts.length];
        Object[] values = new Object[texts.length];
        for (int i = 0; i < texts.length; i++) {
            boolean truth = texts[i].equals("true") || texts[i].equals("false");
            types[i] = truth ? boolean.class : int.class;
            values[i] = truth ? (Object) Boolean.valueOf(texts[i]) : (Object) Integer.valueOf(texts[i]);
        }
        return RaceFinder.class.getMethod(name, types).invoke(finder, values);
    }
}
