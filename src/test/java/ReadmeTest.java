import java.lang.reflect.Method;
import java.lang.reflect.Modifier;
import java.nio.file.Files;
import java.nio.file.Path;
import java.util.ArrayList;
import java.util.List;
import java.util.Set;
import java.util.TreeSet;
import java.util.regex.Matcher;
import java.util.regex.Pattern;
import java.util.stream.Stream;

/** Holds README.md against the class: each answer that it tells, each call in its tables, each test that there is. */
public final class ReadmeTest {
    private static final Pattern EXAMPLE = Pattern.compile("x\\.(\\w+)\\(([^)]*)\\);\\s+// (-?\\d+|true|false): .+");
    private static final Pattern TABLE_ROW = Pattern.compile("(?m)^\\| `(\\w+)\\(([^)]*)\\)` \\| .+ \\|$");
    private static final Path TESTS = Path.of("src/test/java");

    private static final Due DUE = new Due("readme");

    public static void main(String[] args) throws Exception {
        String text = Files.readString(Path.of("README.md"));
        runExamples(text);
        lookAtTables(text);
        lookAtTests(text);
        DUE.end();
    }

    private static void runExamples(String text) throws Exception {
        int start = text.indexOf("```java\n");
        int end = text.indexOf("```\n", start + 1);
        if (start < 0 || end < 0) {
            DUE.fails("there is no example");
            return;
        }
        List<String> lines = text.substring(start, end).lines().skip(1).toList();
        DUE.is("the example begins with a new object", lines.get(0).equals("LimitTrees x = new LimitTrees();"), true);
        LimitTrees x = new LimitTrees();
        for (String line : lines.subList(1, lines.size())) {
            Matcher example = EXAMPLE.matcher(line);
            if (example.matches()) runExample(x, example);
            else DUE.fails("no call with its answer: " + line);
        }
    }

    private static void runExample(LimitTrees x, Matcher example) throws Exception {
        String[] told = parts(example.group(2));
        Method method = methodNamed(example.group(1));
        if (method == null || method.getParameterCount() != told.length) {
            DUE.fails("no such call: " + example.group());
            return;
        }
        Object[] values = new Object[told.length];
        for (int i = 0; i < told.length; i++) {
            boolean isNumber = method.getParameterTypes()[i] == int.class;
            if (isNumber) values[i] = Integer.valueOf(told[i]);
            else values[i] = Boolean.valueOf(told[i]);
        }
        String got = String.valueOf(method.invoke(x, values));
        DUE.is(example.group() + " answered " + got + ", so it is as told,", got.equals(example.group(3)), true);
    }

    private static void lookAtTables(String text) {
        List<String> told = new ArrayList<>();
        Matcher row = TABLE_ROW.matcher(text);
        while (row.find()) told.add(row.group(1) + " " + parts(row.group(2)).length);
        Set<String> there = new TreeSet<>();
        for (Method method : LimitTrees.class.getDeclaredMethods()) {
            if (Modifier.isPublic(method.getModifiers())) there.add(method.getName() + " " + method.getParameterCount());
        }
        DUE.is("calls in the tables, each once", told.size(), there.size());
        DUE.is("the tables have " + told + ", so all calls,", new TreeSet<>(told).equals(there), true);
    }

    private static void lookAtTests(String text) throws Exception {
        try (Stream<Path> files = Files.list(TESTS)) {
            for (Path file : files.toList()) {
                String name = file.getFileName().toString().replace(".java", "");
                if (name.endsWith("Test")) DUE.is(name + " is named", text.contains("`" + name + "`"), true);
            }
        }
    }

    private static Method methodNamed(String name) {
        for (Method method : LimitTrees.class.getDeclaredMethods()) {
            if (Modifier.isPublic(method.getModifiers()) && method.getName().equals(name)) return method;
        }
        return null;
    }

    private static String[] parts(String told) {
        return told.isEmpty() ? new String[0] : told.split(", ");
    }
}
