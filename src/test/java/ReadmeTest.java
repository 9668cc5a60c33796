import java.io.IOException;
import java.lang.reflect.Method;
import java.lang.reflect.Modifier;
import java.nio.file.Files;
import java.nio.file.Path;
import java.util.Set;
import java.util.TreeSet;
import java.util.regex.Matcher;
import java.util.regex.Pattern;

/** README.md as it stands: the calls of its example answer what is written behind them, and it names every call. */
public final class ReadmeTest {
    private static final Pattern LINE = Pattern.compile("(?m)^x\\.(\\w+)\\(([^)]*)\\); +// (-?\\d+)[:;]");

    private static final Checks c = new Checks();

    public static void main(String[] args) throws ReflectiveOperationException, IOException {
        Path root = Path.of(System.getProperty("project.root", "."));
        String readme = Files.readString(root.resolve("README.md"));
        theExample(readme);
        theText(readme);
        everyCallIsNamed(readme);
        everyTestIsNamed(readme, root.resolve("src/test/java"));
        c.end();
    }

    private static void theExample(String readme) throws ReflectiveOperationException {
        int begins = readme.indexOf("```java");
        int ends = readme.indexOf("```", begins + 7);
        c.holds("there is an example", begins >= 0 && ends > begins);
        String example = begins >= 0 && ends > begins ? readme.substring(begins, ends) : "";
        Object x = new RingShepherds();
        int lines = 0;
        Matcher line = LINE.matcher(example);
        while (line.find()) {
            lines++;
            Object got = call(x, line.group(1), line.group(2));
            c.due("x." + line.group(1) + "(" + line.group(2) + ")", ((Number) got).longValue(), Long.parseLong(line.group(3)));
        }
        c.due("each call of the example has its answer", lines, example.split("\nx\\.", -1).length - 1);
    }

    private static Object call(Object x, String name, String given) throws ReflectiveOperationException {
        String[] texts = given.isEmpty() ? new String[0] : given.split(", *");
        for (Method m : RingShepherds.class.getMethods()) {
            if (!m.getName().equals(name) || m.getParameterCount() != texts.length) continue;
            Object[] values = new Object[texts.length];
            for (int i = 0; i < texts.length; i++) {
                if (m.getParameterTypes()[i] == long.class) values[i] = Long.decode(texts[i].replace("L", ""));
                else values[i] = Integer.decode(texts[i]);
            }
            return m.invoke(x, values);
        }
        throw new NoSuchMethodException(name);
    }

    private static void theText(String readme) {
        Matcher text = Pattern.compile("`(ring \\d[^`]*;)`").matcher(readme);
        c.holds("there is a TEXT", text.find());
        RingShepherds x = new RingShepherds();
        c.holds("it can be read", Checks.read(x, text.group(1)) > 0);
    }

    private static void everyCallIsNamed(String readme) {
        Set<String> missing = new TreeSet<>();
        for (Method m : RingShepherds.class.getDeclaredMethods()) {
            if (!Modifier.isPublic(m.getModifiers())) continue;
            if (!readme.contains("`" + m.getName() + "(")) missing.add(m.getName());
        }
        c.holds("calls that README.md does not name: " + missing, missing.isEmpty());
    }

    private static void everyTestIsNamed(String readme, Path tests) throws IOException {
        try (var files = Files.list(tests)) {
            for (Path file : (Iterable<Path>) files::iterator) {
                String name = file.getFileName().toString().replace(".java", "");
                c.holds("README.md names " + name, !name.endsWith("Test") || readme.contains("`" + name + "`"));
            }
        }
    }
}
