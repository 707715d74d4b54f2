import java.io.IOException;
import java.lang.reflect.Field;
import java.lang.reflect.InvocationTargetException;
import java.lang.reflect.Method;
import java.lang.reflect.Modifier;
import java.nio.file.DirectoryStream;
import java.nio.file.Files;
import java.nio.file.Path;
import java.util.Map;
import java.util.TreeMap;
import java.util.regex.Matcher;
import java.util.regex.Pattern;

/** What README.md says is so: its example's answers, its calls, its constants and its tests. */
public final class Readme {
    private static final Path TESTS = Path.of("src/test/java");
    private static final Pattern MADE = Pattern.compile("= new LevelTables\\((\\d+), (\\d+)\\);");
    private static final Pattern CALLED = Pattern.compile("road\\.(\\w+)\\(([^)]*)\\);\\s*// (-?\\w+)(:.*)?");
    private static final Pattern ROW = Pattern.compile("\\| `(\\w+ \\w+)\\(([^)]*)\\)`( \\*)? \\|.*");
    private static final Pattern CONSTANT = Pattern.compile("\\| `([A-Z]+)` \\| (-?\\d+) \\|.*");
    private static final Pattern TEST = Pattern.compile("- `src/test/java/(\\w+\\.java)`:.*");
    private static int wrong = 0;

    public static void main(String[] args) throws IOException, ReflectiveOperationException {
        String text = Files.readString(Path.of("README.md"));
        example(text);
        calls(text);
        forgetting(text);
        constants(text);
        tests(text);
        System.out.println(wrong == 0 ? "README.md is as due" : wrong + " things are not as README.md says");
        if (wrong != 0) {
            System.exit(1);
        }
    }

    private static void due(String what, Object got, Object said) {
        if (!said.equals(got)) {
            wrong++;
            System.out.println(what + ": " + got + ", README.md says " + said);
        }
    }

    private static Method methodOf(String name) {
        for (Method method : LevelTables.class.getDeclaredMethods()) {
            if (Modifier.isPublic(method.getModifiers()) && method.getName().equals(name)) {
                return method;
            }
        }
        throw new IllegalArgumentException("README.md names a call that there is not: " + name);
    }

    private static Object answer(LevelTables road, String name, String numbers)
            throws IllegalAccessException, InvocationTargetException {
        Method method = methodOf(name);
        String[] words = numbers.isEmpty() ? new String[0] : numbers.split(", ");
        Object[] values = new Object[words.length];
        for (int i = 0; i < words.length; i++) {
            boolean isLong = method.getParameterTypes()[i] == long.class;
            values[i] = isLong ? (Object) Long.valueOf(words[i]) : (Object) Integer.valueOf(words[i]);
        }
        return method.invoke(road, values);
    }

    private static String between(String text, String start, String end) {
        int from = text.indexOf(start);
        int to = from < 0 ? -1 : text.indexOf(end, from + start.length());
        if (to < 0) {
            throw new IllegalArgumentException("README.md has no part from " + start + " to " + end);
        }
        return text.substring(from + start.length(), to);
    }

    private static void example(String text) throws ReflectiveOperationException {
        String[] lines = between(text, "```java\n", "\n```").split("\n");
        Matcher made = MADE.matcher(lines[0]);
        due("the example begins with an object", made.find(), true);
        LevelTables road = new LevelTables(Integer.parseInt(made.group(1)), Integer.parseInt(made.group(2)));
        for (int i = 1; i < lines.length; i++) {
            Matcher called = CALLED.matcher(lines[i]);
            if (!called.matches()) {
                due("a line of the example", lines[i], "a call with its answer");
                continue;
            }
            Object got = answer(road, called.group(1), called.group(2));
            due(called.group(1) + "(" + called.group(2) + ")", String.valueOf(got), called.group(3));
        }
    }

    private static String typesIn(String numbers) {
        return numbers.replaceAll(" \\w+(,|$)", "$1");
    }

    private static String typesOf(Method method) {
        StringBuilder all = new StringBuilder();
        for (Class<?> type : method.getParameterTypes()) {
            all.append(all.length() == 0 ? "" : ", ").append(type.getSimpleName());
        }
        return all.toString();
    }

    private static void calls(String text) {
        Map<String, String> said = new TreeMap<>();
        text.lines().map(ROW::matcher).filter(Matcher::matches)
                .forEach(row -> said.put(row.group(1), typesIn(row.group(2))));
        Map<String, String> found = new TreeMap<>();
        for (Method method : LevelTables.class.getDeclaredMethods()) {
            if (Modifier.isPublic(method.getModifiers())) {
                found.put(method.getReturnType().getSimpleName() + " " + method.getName(), typesOf(method));
            }
        }
        due("the calls", found, said);
    }

    /** Each call of the table, with numbers that are taken, on a road with a table and a span. */
    private static void forgetting(String text) throws ReflectiveOperationException {
        Map<String, String> taken = Map.of("ground", "1, 0", "prices", "1, 1, 1", "span", "3, 5, 0, 7",
                "drop", "0", "fixed", "1, 0", "slopes", "2, 1, 0", "speed", "1", "lorry", "1, 1, 1, 1",
                "move", "1, 0", "curve", "1, 9");
        for (String line : text.split("\n")) {
            Matcher row = ROW.matcher(line);
            if (!row.matches()) {
                continue;
            }
            String name = row.group(1).replaceAll(".* ", "");
            Method method = methodOf(name);
            String numbers = taken.getOrDefault(name, typesOf(method).replaceAll("int|long", "0"));
            LevelTables road = new LevelTables(6, 6);
            road.span(0, 2, 0, 7);
            road.run();
            answer(road, name, numbers);
            due(name + "(" + numbers + ") forgets", road.cost() == LevelTables.NONE, row.group(3) != null);
        }
    }

    private static void constants(String text) throws IllegalAccessException {
        Map<String, String> said = new TreeMap<>();
        text.lines().map(CONSTANT::matcher).filter(Matcher::matches)
                .forEach(row -> said.put(row.group(1), row.group(2)));
        Map<String, String> found = new TreeMap<>();
        for (Field field : LevelTables.class.getFields()) {
            found.put(field.getName(), String.valueOf(field.get(null)));
        }
        due("the constants", found, said);
    }

    private static void tests(String text) throws IOException {
        Map<String, String> said = new TreeMap<>();
        text.lines().map(TEST::matcher).filter(Matcher::matches).forEach(row -> said.put(row.group(1), ""));
        Map<String, String> found = new TreeMap<>();
        try (DirectoryStream<Path> files = Files.newDirectoryStream(TESTS, "*.java")) {
            files.forEach(file -> found.put(file.getFileName().toString(), ""));
        }
        due("the tests", found.keySet(), said.keySet());
        due(".ci/run can be run", Files.isExecutable(Path.of(".ci/run")), true);
    }
}
