import java.io.IOException;
import java.lang.reflect.Method;
import java.lang.reflect.Modifier;
import java.nio.file.DirectoryStream;
import java.nio.file.Files;
import java.nio.file.Path;
import java.util.regex.Matcher;
import java.util.regex.Pattern;

/** Makes the calls of README.md's example and compares what it says they answer; run from the project's folder. */
public final class ReadmeTest {
    private static final Pattern WRITE = Pattern.compile("write\\(bench, \"([^\"]*)\"\\);");
    private static final Pattern CALL = Pattern.compile("bench\\.(\\w+)\\(([^)]*)\\);\\s*// (-?\\d+)(:.*)?");
    private static final int CALLS_AT_LEAST = 20;

    private ReadmeTest() {
    }

    public static void main(String[] args) throws IOException, ReflectiveOperationException {
        String readme = Files.readString(Path.of("README.md"));
        example(readme);
        everyCallIsNamed(readme);
        everyTestIsNamed(readme);
        Bench.end();
    }

    private static void example(String readme) throws ReflectiveOperationException {
        int from = readme.indexOf("BenchOrders bench = new BenchOrders();");
        int to = readme.indexOf("```", Math.max(from, 0));
        Bench.due("README.md has an example", from >= 0 && to > from ? 1 : 0, 1);
        if (from < 0 || to < from) {
            return;
        }
        Bench bench = new Bench();
        int calls = 0;
        String[] lines = readme.substring(from, to).split("\n");
        for (int i = 1; i < lines.length; i++) {
            String line = lines[i].trim();
            Matcher write = WRITE.matcher(line);
            Matcher call = CALL.matcher(line);
            if (write.matches()) {
                bench.text(write.group(1));
            } else if (call.matches()) {
                Bench.due("README.md: " + line, answer(bench.it, call.group(1), call.group(2)), Long.parseLong(call.group(3)));
                calls++;
            } else {
                Bench.due("README.md: '" + line + "' is a call with its answer", line.isEmpty() || line.startsWith("//") ? 1 : 0, 1);
            }
        }
        Bench.due("enough calls of the example were made", calls >= CALLS_AT_LEAST ? 1 : 0, 1);
    }

    private static long answer(BenchOrders it, String name, String arguments) throws ReflectiveOperationException {
        String[] told = arguments.isEmpty() ? new String[0] : arguments.split(",\\s*");
        Class<?>[] types = new Class<?>[told.length];
        Object[] numbers = new Object[told.length];
        for (int i = 0; i < told.length; i++) {
            types[i] = int.class;
            numbers[i] = Integer.valueOf(told[i]);
        }
        return ((Number) BenchOrders.class.getMethod(name, types).invoke(it, numbers)).longValue();
    }

    private static void everyCallIsNamed(String readme) {
        int calls = readme.indexOf("### The calls");
        String part = readme.substring(Math.max(calls, 0));
        for (Method m : BenchOrders.class.getDeclaredMethods()) {
            if (Modifier.isPublic(m.getModifiers())) {
                Bench.due("README.md tells of " + m.getName(), part.contains("`" + m.getName() + "(") ? 1 : 0, 1);
            }
        }
    }

    private static void everyTestIsNamed(String readme) throws IOException {
        try (DirectoryStream<Path> files = Files.newDirectoryStream(Path.of("src/test/java"), "*Test.java")) {
            for (Path file : files) {
                String name = file.getFileName().toString().replace(".java", "");
                Bench.due("README.md tells of " + name, readme.contains("`" + name + "`") ? 1 : 0, 1);
            }
        }
    }
}
