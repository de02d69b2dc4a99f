import java.io.IOException;
import java.lang.reflect.Method;
import java.nio.file.Files;
import java.nio.file.Path;
import java.util.Set;
import java.util.TreeSet;
import java.util.regex.Matcher;
import java.util.regex.Pattern;
import java.util.stream.Stream;

/** README.md: each call that it shows is answered so, every call is shown, every test is named. */
public final class ReadmeTest {
    private static final Check CHECK = new Check("ReadmeTest");
    /** A call, and behind it in a comment the answer, as a number or by the constant's name. */
    private static final Pattern SHOWN = Pattern.compile("desk\\.(\\w+)\\(([^)]*)\\);\\s*// (\\w+|-\\d+)\\b.*");
    private static final Pattern FILE = Pattern.compile("\\b[A-Z]\\w+(?:Test|\\.java)\\b");

    public static void main(String[] args) throws IOException, ReflectiveOperationException {
        String text = Files.readString(Path.of("README.md"));
        calls(text);
        tests(text);
        CHECK.end();
    }

    private static void calls(String text) throws ReflectiveOperationException {
        SchubertDesk desk = new SchubertDesk();
        Set<String> shown = new TreeSet<>();
        for (String line : text.split("\n")) {
            Matcher call = SHOWN.matcher(line);
            if (call.matches()) {
                shown.add(call.group(1));
                CHECK.due(line, answer(desk, call.group(1), call.group(2)), due(call.group(3)));
            } else {
                CHECK.holds("can be read: " + line, !line.startsWith("desk."));
            }
        }
        Set<String> all = new TreeSet<>();
        for (Method method : SchubertDesk.class.getDeclaredMethods()) {
            if (java.lang.reflect.Modifier.isPublic(method.getModifiers())) {
                all.add(method.getName());
            }
        }
        CHECK.holds("every call is shown: " + shown, shown.equals(all));
    }

    private static long answer(SchubertDesk desk, String name, String numbers) throws ReflectiveOperationException {
        String[] told = numbers.isEmpty() ? new String[0] : numbers.split(", ");
        Class<?>[] types = new Class<?>[told.length];
        Object[] given = new Object[told.length];
        for (int k = 0; k < told.length; k++) {
            types[k] = int.class;
            given[k] = Integer.valueOf(told[k]);
        }
        return ((Number) SchubertDesk.class.getMethod(name, types).invoke(desk, given)).longValue();
    }

    private static long due(String told) throws ReflectiveOperationException {
        if (Character.isLetter(told.charAt(0))) {
            return ((Number) SchubertDesk.class.getField(told).get(null)).longValue();
        }
        return Long.parseLong(told);
    }

    private static void tests(String text) throws IOException {
        Set<String> named = new TreeSet<>();
        Matcher file = FILE.matcher(text);
        while (file.find()) {
            named.add(file.group().replace(".java", ""));
        }
        named.remove("SchubertDesk");
        Set<String> there = new TreeSet<>();
        try (Stream<Path> files = Files.list(Path.of("src/test/java"))) {
            files.forEach(path -> there.add(path.getFileName().toString().replace(".java", "")));
        }
        CHECK.holds("tests named " + named + ", there " + there, named.equals(there));
    }
}
