import java.io.IOException;
import java.lang.reflect.Method;
import java.nio.charset.StandardCharsets;
import java.nio.file.Files;
import java.nio.file.Path;
import java.util.TreeSet;
import java.util.regex.Matcher;
import java.util.regex.Pattern;

/** The README's example answers what it says, and the README names every call. It runs in the project's folder. */
public final class ReadmeTest {
    private static final Check check = new Check("ReadmeTest");
    private static final Pattern EXAMPLE = Pattern.compile("(?s)```java\n(.*?)```");
    private static final Pattern CALL = Pattern.compile("bench\\.(\\w+)\\((.*?)\\); +// (-?\\w+)(?::.*)?");

    private ReadmeTest() {
    }

    public static void main(String[] args) throws IOException, ReflectiveOperationException {
        String readme = Files.readString(Path.of("README.md"), StandardCharsets.UTF_8);
        Matcher example = EXAMPLE.matcher(readme);
        check.isTrue("there is an example", example.find());
        run(example.group(1).split("\n"));
        callsAreNamed(readme);
        testsAreNamed(readme);
        check.finish();
    }

    private static void run(String[] lines) throws ReflectiveOperationException {
        check.same("the first line", lines[0], "HostBench bench = new HostBench();");
        HostBench bench = new HostBench();
        for (int i = 1; i < lines.length; i++) {
            if (!lines[i].isEmpty() && !lines[i].startsWith("//")) {
                Matcher call = CALL.matcher(lines[i]);
                check.isTrue("a call and its answer: " + lines[i], call.matches());
                check.same(lines[i], answer(bench, call.group(1), call.group(2)), call.group(3));
            }
        }
    }

    private static String answer(HostBench bench, String name, String numbers) throws ReflectiveOperationException {
        String[] texts = numbers.isEmpty() ? new String[0] : numbers.split(", ");
        Class<?>[] types = new Class<?>[texts.length];
        Object[] values = new Object[texts.length];
        for (int i = 0; i < texts.length; i++) {
            types[i] = int.class;
            values[i] = Long.decode(texts[i]).intValue();
        }
        return String.valueOf(HostBench.class.getMethod(name, types).invoke(bench, values));
    }

    private static void callsAreNamed(String readme) {
        for (Method m : HostBench.class.getDeclaredMethods()) {
            check.isTrue("the README tells of " + m.getName(), readme.contains("`" + m.getName() + "("));
        }
    }

    private static void testsAreNamed(String readme) throws IOException {
        TreeSet<String> names = new TreeSet<>();
        try (var files = Files.list(Path.of("src/test/java"))) {
            files.forEach(file -> names.add(file.getFileName().toString().replace(".java", "")));
        }
        for (String name : names) {
            check.isTrue("the README tells of " + name, !name.endsWith("Test") || readme.contains("| `" + name + "` |"));
        }
    }
}
