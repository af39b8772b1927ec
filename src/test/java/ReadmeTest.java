import java.io.IOException;
import java.lang.reflect.Constructor;
import java.lang.reflect.Method;
import java.lang.reflect.Modifier;
import java.nio.charset.StandardCharsets;
import java.nio.file.Files;
import java.nio.file.Path;
import java.util.HashMap;
import java.util.List;
import java.util.Map;
import java.util.TreeSet;
import java.util.regex.Matcher;
import java.util.regex.Pattern;
import java.util.stream.Stream;

/** What README.md says must hold: its example, line by line, its constants, its calls, and its list of tests. */
final class ReadmeTest {
    private static final Path README = Path.of("README.md");
    private static final Path TESTS = Path.of("src", "test", "java");
    private static final Pattern EXAMPLE = Pattern.compile("(?s)```java\n(.*?)```");
    private static final String MADE = "KeptMoving x = new KeptMoving();";
    private static final Pattern LINE = Pattern.compile("(?:int (\\w+) = )?x\\.(\\w+)\\(([^()]*)\\); +// (-?\\w+).*");
    private static final Pattern CONSTANT = Pattern.compile("(?m)^\\| `([A-Z]+)` \\| (-\\d+) \\|");
    private static final Pattern CALL = Pattern.compile("(?m)^\\| (\\d+) \\| `([^`]+)` \\|");
    private static final Pattern TEST = Pattern.compile("(?m)^\\| `(\\w+Test)` \\|");

    private static final String[] CALLS = {"KeptMoving", "point", "speed", "gone", "go", "back", "count", "told",
        "place", "order", "kept", "at", "meeting", "near", "first", "within"};
    private static final String[] REFUSALS = {"UNKNOWN", "OUTSIDE", "NOT", "FULL"};
    private static final int MOST_CALLS = 512;

    private static final Check CHECK = new Check("ReadmeTest");

    private final KeptMoving program = new KeptMoving();
    private final Map<String, Long> named = new HashMap<>(constants());
    private final TreeSet<String> asked = new TreeSet<>();
    private int calls;

    public static void main(String[] args) throws IOException, ReflectiveOperationException {
        String text = Files.readString(README, StandardCharsets.UTF_8);
        new ReadmeTest().example(text);
        constantsTold(text);
        callsTold(text);
        testsTold(text);
        CHECK.end();
    }

    private static Map<String, Long> constants() {
        return Map.of("NONE", (long) KeptMoving.NONE, "UNKNOWN", (long) KeptMoving.UNKNOWN, "OUTSIDE",
                (long) KeptMoving.OUTSIDE, "NOT", (long) KeptMoving.NOT, "FULL", (long) KeptMoving.FULL);
    }

    /** Each line makes one call and tells its answer; each call of the class is shown. */
    private void example(String text) throws ReflectiveOperationException {
        Matcher found = EXAMPLE.matcher(text);
        CHECK.due("an example, 1 if there is one", found.find() ? 1 : 0, 1);
        String[] lines = found.group(1).split("\n");
        CHECK.dueText("the example's first line", lines[0], MADE);
        for (int l = 1; l < lines.length; l++) {
            line(lines[l]);
        }
        CHECK.due("calls of the example, 1 if not too many", calls <= MOST_CALLS ? 1 : 0, 1);
        TreeSet<String> all = new TreeSet<>(List.of(CALLS));
        all.remove("KeptMoving");
        CHECK.dueText("calls that the example shows", asked.toString(), all.toString());
    }

    private void line(String line) throws ReflectiveOperationException {
        Matcher parts = LINE.matcher(line);
        CHECK.due("the form of: " + line + ", 1 if it is kept", parts.matches() ? 1 : 0, 1);
        if (parts.matches()) {
            long answer = call(parts.group(2), parts.group(3).split(", "));
            CHECK.due("README.md: " + line, answer, value(parts.group(4)));
            if (parts.group(1) != null) {
                named.put(parts.group(1), answer);
            }
        }
    }

    private long call(String name, String[] numbers) throws ReflectiveOperationException {
        Class<?>[] types = new Class<?>[numbers.length];
        Object[] values = new Object[numbers.length];
        for (int n = 0; n < numbers.length; n++) {
            types[n] = int.class;
            values[n] = (int) value(numbers[n]);
        }
        asked.add(name);
        calls++;
        return ((Number) KeptMoving.class.getMethod(name, types).invoke(program, values)).longValue();
    }

    private long value(String word) {
        String name = word.replace("KeptMoving.", "");
        return named.containsKey(name) ? named.get(name) : Long.parseLong(name);
    }

    /** In the order of the REFUSALS, with their values. */
    private static void constantsTold(String text) {
        StringBuilder names = new StringBuilder();
        Matcher row = CONSTANT.matcher(text);
        while (row.find()) {
            names.append(names.length() == 0 ? "" : ", ").append(row.group(1));
            CHECK.due("README.md: " + row.group(1), Long.parseLong(row.group(2)),
                    constants().getOrDefault(row.group(1), 0L));
        }
        CHECK.dueText("constants, in order", names.toString(), "NONE, " + String.join(", ", REFUSALS));
    }

    /** Each call of the face by its promise's number, with its types, and nothing else. */
    private static void callsTold(String text) {
        TreeSet<String> told = new TreeSet<>();
        Matcher row = CALL.matcher(text);
        for (int promise = 1; row.find(); promise++) {
            CHECK.due("README.md: number of " + row.group(2), Long.parseLong(row.group(1)), promise);
            String name = promise <= CALLS.length ? CALLS[promise - 1] : "none";
            CHECK.due("README.md: promise " + promise + " is " + name + ", 1 if so",
                    row.group(2).matches("(\\w+ )?" + name + "\\(.*\\)") ? 1 : 0, 1);
            told.add(row.group(2).replaceAll("(int|long) \\w+(?=[,)])", "$1"));
        }
        CHECK.dueText("calls told", told.toString(), face().toString());
    }

    private static TreeSet<String> face() {
        TreeSet<String> face = new TreeSet<>();
        for (Constructor<?> constructor : KeptMoving.class.getConstructors()) {
            face.add("KeptMoving(" + types(constructor.getParameterTypes()) + ")");
        }
        for (Method method : KeptMoving.class.getDeclaredMethods()) {
            if (Modifier.isPublic(method.getModifiers())) {
                face.add(method.getReturnType() + " " + method.getName() + "(" + types(method.getParameterTypes()) + ")");
            }
        }
        return face;
    }

    private static String types(Class<?>[] types) {
        return String.join(", ", Stream.of(types).map(Class::getName).toList());
    }

    private static void testsTold(String text) throws IOException {
        TreeSet<String> told = new TreeSet<>();
        Matcher row = TEST.matcher(text);
        while (row.find()) {
            told.add(row.group(1));
        }
        TreeSet<String> there = new TreeSet<>();
        try (Stream<Path> files = Files.list(TESTS)) {
            files.map(file -> file.getFileName().toString()).filter(name -> name.endsWith("Test.java"))
                    .forEach(name -> there.add(name.replace(".java", "")));
        }
        CHECK.dueText("tests told", told.toString(), there.toString());
    }
}
