import java.io.IOException;
import java.io.UncheckedIOException;
import java.lang.reflect.Method;
import java.lang.reflect.Modifier;
import java.nio.file.Files;
import java.nio.file.Path;
import java.util.List;
import java.util.Set;
import java.util.TreeSet;
import java.util.regex.Matcher;
import java.util.regex.Pattern;
import java.util.stream.Collectors;
import java.util.stream.Stream;

/** What README.md tells is so: its calls answer as it says, and it leaves no call and no test out. */
public final class ReadmeTest {
    private static final Pattern EXAMPLE = Pattern.compile("x\\.(\\w+)\\(([^)]*)\\);\\s*// (-?\\d+)(:.*)?");

    private static final Check check = new Check();

    public static void main(String[] args) throws Exception {
        Path source = Path.of(args.length > 0 ? args[0] : "src/main/java/GoesInto.java").toAbsolutePath();
        Path root = source.getParent().getParent().getParent().getParent();
        List<String> readme = Files.readAllLines(root.resolve("README.md"));
        Set<String> shown = examples(readme);
        for (Method m : GoesInto.class.getDeclaredMethods()) {
            if (Modifier.isPublic(m.getModifiers())) {
                check.due("README.md shows " + m.getName(), shown.contains(m.getName()) ? 1 : 0, 1);
            }
        }
        for (String test : tests(root.resolve("src/test/java"))) {
            check.due("README.md lists " + test, listed(readme, test) ? 1 : 0, 1);
        }
        check.finish();
    }

    private static Set<String> examples(List<String> readme) throws ReflectiveOperationException {
        Set<String> shown = new TreeSet<>();
        GoesInto x = new GoesInto();
        for (String line : readme) {
            Matcher example = EXAMPLE.matcher(line);
            boolean told = example.matches();
            check.due("can be read: " + line, line.startsWith("x.") == told ? 1 : 0, 1);
            if (told) {
                shown.add(example.group(1));
                check.due(line, answer(x, example.group(1), example.group(2)), Long.parseLong(example.group(3)));
            }
        }
        return shown;
    }

    private static long answer(GoesInto x, String name, String told) throws ReflectiveOperationException {
        for (Method m : GoesInto.class.getDeclaredMethods()) {
            if (Modifier.isPublic(m.getModifiers()) && m.getName().equals(name)) {
                return ((Number) m.invoke(x, values(m.getParameterTypes(), told))).longValue();
            }
        }
        throw new IllegalArgumentException("the face has no " + name);
    }

    private static Object[] values(Class<?>[] types, String told) {
        String[] each = told.isEmpty() ? new String[0] : told.split(", ");
        Object[] values = new Object[each.length];
        for (int i = 0; i < each.length; i++) {
            long value = Long.decode(each[i].replace("L", ""));
            if (i < types.length && types[i] == int.class) {
                values[i] = (int) value;
            } else {
                values[i] = value;
            }
        }
        return values;
    }

    private static Set<String> tests(Path directory) {
        try (Stream<Path> files = Files.list(directory)) {
            return files.map(f -> f.getFileName().toString()).filter(f -> f.endsWith("Test.java"))
                .map(f -> f.substring(0, f.length() - ".java".length())).collect(Collectors.toCollection(TreeSet::new));
        } catch (IOException e) {
            throw new UncheckedIOException(e);
        }
    }

    private static boolean listed(List<String> readme, String test) {
        return readme.stream().anyMatch(line -> line.startsWith("| `" + test + "` |"));
    }
}
