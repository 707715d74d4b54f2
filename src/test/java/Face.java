import java.io.IOException;
import java.lang.management.ManagementFactory;
import java.lang.reflect.Constructor;
import java.lang.reflect.Field;
import java.lang.reflect.Method;
import java.lang.reflect.Modifier;
import java.nio.file.Files;
import java.nio.file.Path;
import java.util.Set;
import java.util.TreeSet;
import java.util.regex.Matcher;
import java.util.regex.Pattern;

/** The public face, the rules of LANGUAGE.md that can be looked up, and the room that runs take. */
public final class Face {
    private static final Path SOURCE = Path.of("src/main/java/LevelTables.java");
    private static final int LONGEST_METHOD = 60;
    private static final long ROOM = 7300000L;
    private static final Set<String> METHODS = Set.of(
            "boolean ground(int, int)", "boolean prices(int, int, int)", "int span(int, int, int, long)",
            "boolean drop(int)", "boolean fixed(int, int)", "boolean slopes(int, int, int)", "int run()",
            "int level(int)", "long cost()", "long other(int)", "boolean move(int, int)",
            "boolean speed(int)", "int curve(int, int)", "long curveAt(int, int)",
            "boolean lorry(int, int, int, int)", "int lane(int, int)", "int order(int)", "int told(int)",
            "boolean keeps()");
    private static int wrong = 0;

    public static void main(String[] args) throws IOException {
        constants();
        members();
        classesInside();
        source();
        room();
        System.out.println(wrong == 0 ? "the face is as due" : wrong + " things are not as due");
        if (wrong != 0) {
            System.exit(1);
        }
    }

    private static void due(String what, Object got, Object want) {
        if (!want.equals(got)) {
            wrong++;
            System.out.println(what + " is " + got + ", due is " + want);
        }
    }

    private static void constants() {
        due("NONE", LevelTables.NONE, -1);
        due("TIGHT", LevelTables.TIGHT, -2);
        due("NEAR", LevelTables.NEAR, -3);
        due("HELD", LevelTables.HELD, -4);
        due("SPANNED", LevelTables.SPANNED, -5);
    }

    private static String text(Class<?>[] types) {
        StringBuilder all = new StringBuilder();
        for (Class<?> type : types) {
            all.append(all.length() == 0 ? "" : ", ").append(type.getSimpleName());
        }
        return all.toString();
    }

    private static void members() {
        due("the class's modifiers", Modifier.toString(LevelTables.class.getModifiers()), "public final");
        Set<String> found = new TreeSet<>();
        for (Method method : LevelTables.class.getDeclaredMethods()) {
            if (!Modifier.isPrivate(method.getModifiers())) {
                due(method + " modifiers", Modifier.toString(method.getModifiers()), "public");
                found.add(method.getReturnType().getSimpleName() + " " + method.getName()
                        + "(" + text(method.getParameterTypes()) + ")");
            }
        }
        due("the public methods", found, new TreeSet<>(METHODS));
        Constructor<?>[] constructors = LevelTables.class.getDeclaredConstructors();
        due("constructors", constructors.length, 1);
        due("its numbers", text(constructors[0].getParameterTypes()), "int, int");
        due("its modifiers", Modifier.toString(constructors[0].getModifiers()), "public");
        Set<String> shown = new TreeSet<>();
        for (Field field : LevelTables.class.getDeclaredFields()) {
            if (!Modifier.isPrivate(field.getModifiers())) {
                shown.add(field.getName());
                due(field + " is shown", field.toString().startsWith("public static final int "), true);
            }
            if (Modifier.isStatic(field.getModifiers())) {
                due(field.getName() + " is final", Modifier.isFinal(field.getModifiers()), true);
            }
        }
        due("the constants shown", shown, new TreeSet<>(Set.of("NONE", "TIGHT", "NEAR", "HELD", "SPANNED")));
    }

    private static void classesInside() {
        Class<?>[] inside = LevelTables.class.getDeclaredClasses();
        due("at most twelve classes", inside.length < 12, true);
        for (Class<?> one : inside) {
            due(one + " is static", Modifier.isStatic(one.getModifiers()), true);
            due(one + " is public", Modifier.isPublic(one.getModifiers()), false);
            for (Method method : one.getDeclaredMethods()) {
                due(method + " has at most seven numbers", method.getParameterCount() <= 7, true);
                if (Modifier.isPrivate(method.getModifiers())) {
                    noPublicName(method);
                }
            }
        }
        for (Method method : LevelTables.class.getDeclaredMethods()) {
            if (Modifier.isPrivate(method.getModifiers())) {
                noPublicName(method);
            }
        }
    }

    private static void noPublicName(Method method) {
        for (String named : METHODS) {
            due(method + " bears a public name", named.contains(" " + method.getName() + "("), false);
        }
    }

    private static void source() throws IOException {
        String text = Files.readString(SOURCE).replaceAll("(?s)/\\*.*?\\*/", "").replaceAll("//[^\n]*", "")
                .replaceAll("(case [^:;{}]*?|default\\s*)->", "");
        String[] banned = {"\\bthrow", "\\btry\\b", "\\bcatch\\b", "\\bsynchronized\\b", "\\bassert\\b", "->", "::",
            "Exact\\b", "\\bpackage\\b", "\\bObject\\b", "[^\\x00-\\xff]"};
        for (String one : banned) {
            Matcher matcher = Pattern.compile(one).matcher(text);
            due("the source holds " + one, matcher.find(), false);
        }
        Set<String> allowed = Set.of("import java.util.Arrays;", "import java.util.ArrayList;",
                "import java.util.List;", "import java.util.Iterator;");
        text.lines().filter(line -> line.startsWith("import"))
                .forEach(line -> due(line + " is allowed", allowed.contains(line.trim()), true));
        methodLengths(text.split("\n", -1));
    }

    private static void methodLengths(String[] lines) {
        int started = 0;
        for (int i = 0; i < lines.length; i++) {
            if (lines[i].matches(" {4}( {4})?[A-Za-z].*\\) \\{")) {
                started = i;
            }
            if (lines[i].matches(" {4}( {4})?}") && i - started >= LONGEST_METHOD) {
                due("lines of " + lines[started].trim(), i - started, "fewer than " + LONGEST_METHOD);
            }
        }
    }

    /**
     * All calls of a run live in one room of some 7.3 million fields and elements: an object of the
     * greatest size with 512 of the dearest calls takes an eighth of it at most.
     */
    private static void room() {
        if (!(ManagementFactory.getThreadMXBean() instanceof com.sun.management.ThreadMXBean bean)
                || !bean.isThreadAllocatedMemorySupported()) {
            return;
        }
        dearCalls(new LevelTables(24, 24));
        long start = bean.getCurrentThreadAllocatedBytes();
        dearCalls(new LevelTables(24, 24));
        long taken = bean.getCurrentThreadAllocatedBytes() - start;
        due("bytes of an object with its calls below an eighth: " + taken, taken < ROOM / 8 * Long.BYTES, true);
    }

    /** 512 of them. */
    private static void dearCalls(LevelTables x) {
        for (int i = 0; i < 512 / 8; i++) {
            x.drop(0);
            x.span(i % 20, i % 20 + 4, i % 2, i);
            x.ground(i % 25, i % 25);
            x.run();
            x.move(i % 25, 1);
            x.other(5);
            x.order(0);
            x.keeps();
        }
    }
}
