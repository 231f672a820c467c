import java.io.IOException;
import java.lang.reflect.InvocationTargetException;
import java.lang.reflect.Method;
import java.lang.reflect.Modifier;
import java.nio.file.Files;
import java.nio.file.Path;
import java.util.ArrayList;
import java.util.Arrays;
import java.util.HashMap;
import java.util.List;
import java.util.Map;
import java.util.Set;
import java.util.TreeSet;
import java.util.regex.Matcher;
import java.util.regex.Pattern;
import java.util.stream.Stream;

/** The calls that README.md shows are made, as they stand there, and must answer what it says. */
public final class ReadmeTest {
    private static final Path README = Path.of("README.md");
    private static final Path TESTS = Path.of("src/test/java");
    private static final Pattern BLOCK = Pattern.compile("(?s)```java\n(.*?)```");
    private static final Pattern MADE = Pattern.compile(
            "CodeBreaker (\\w+) = new CodeBreaker\\((-?\\d+), (-?\\d+)\\); +// .+");
    private static final Pattern CALL = Pattern.compile(
            "(\\w+)\\.(\\w+)\\(((?:-?\\d+(?:, -?\\d+)*)?)\\); +// (-?\\d+|true|false|[A-Z_]+)([:,] .+)?");
    private static final Pattern CONSTANT = Pattern.compile("`([A-Z_]+)` \\((-?\\d+)");
    private static final Pattern CODE = Pattern.compile("(\\d+),\\s+that\\s+is\\s+(\\d+)");
    private static final Pattern ROW = Pattern.compile("(?m)^\\| `(\\w+)\\(([a-z, ]*)\\)` \\|");
    private static final Pattern TEST = Pattern.compile("`src/test/java/(\\w+\\.java)`");

    private static final Map<String, CodeBreaker> OBJECTS = new HashMap<>();

    private static int wrong = 0;

    public static void main(String[] args) throws IOException {
        String text = Files.readString(README);
        constants(text);
        codes(text);
        rows(text);
        tests(text);
        Set<String> shown = new TreeSet<>();
        for (String line : exampleLines(text)) {
            shown.add(example(line));
        }
        shown.remove("");
        check(shown.equals(publicNames()), "README.md shows the calls " + shown + " alone");
        System.out.println(wrong == 0 ? "README.md says what is so" : wrong + " faults");
        if (wrong != 0) {
            System.exit(1);
        }
    }

    private static void check(boolean holds, String fault) {
        if (!holds) {
            wrong++;
            System.out.println(fault);
        }
    }

    private static Set<String> publicNames() {
        Set<String> names = new TreeSet<>();
        for (Method m : CodeBreaker.class.getDeclaredMethods()) {
            if (Modifier.isPublic(m.getModifiers())) {
                names.add(m.getName());
            }
        }
        return names;
    }

    // The examples

    private static List<String> exampleLines(String text) {
        List<String> lines = new ArrayList<>();
        Matcher block = BLOCK.matcher(text);
        while (block.find()) {
            lines.addAll(block.group(1).lines().toList());
        }
        return lines;
    }

    /** Carries the line out; answers the name of the call, or "" if it is none. */
    private static String example(String line) {
        Matcher made = MADE.matcher(line);
        if (made.matches()) {
            OBJECTS.put(made.group(1), new CodeBreaker(
                    Integer.parseInt(made.group(2)), Integer.parseInt(made.group(3))));
            return "";
        }
        Matcher call = CALL.matcher(line);
        if (!call.matches() || !OBJECTS.containsKey(call.group(1))) {
            check(false, "not a call with what it answers: " + line);
            return "";
        }
        String got = answer(OBJECTS.get(call.group(1)), call.group(2), call.group(3));
        check(got.equals(due(call.group(4))), "answered " + got + ": " + line);
        return call.group(2);
    }

    private static String answer(CodeBreaker x, String name, String numbers) {
        Object[] handed = Stream.of(numbers.split(", "))
                .filter(n -> !n.isEmpty()).map(Integer::valueOf).toArray();
        try {
            return String.valueOf(method(name, handed.length).invoke(x, handed));
        } catch (NoSuchMethodException | IllegalAccessException e) {
            return "nothing, there is no such call";
        } catch (InvocationTargetException e) {
            return "nothing, it threw " + e.getCause();
        }
    }

    private static Method method(String name, int numbers) throws NoSuchMethodException {
        Class<?>[] types = new Class<?>[numbers];
        Arrays.fill(types, int.class);
        return CodeBreaker.class.getMethod(name, types);
    }

    private static String due(String said) {
        return Character.isUpperCase(said.charAt(0)) ? constant(said) : said;
    }

    private static String constant(String name) {
        try {
            return String.valueOf(CodeBreaker.class.getField(name).getInt(null));
        } catch (ReflectiveOperationException e) {
            return "no constant";
        }
    }

    // What the text around them says

    private static void constants(String text) {
        Set<String> named = new TreeSet<>();
        Matcher m = CONSTANT.matcher(text);
        while (m.find()) {
            named.add(m.group(1));
            check(constant(m.group(1)).equals(m.group(2)), m.group(1) + " is not " + m.group(2));
        }
        check(named.equals(Set.of("BAD_ARG", "FULL", "NONE", "MANY")), "constants named: " + named);
    }

    /** All codes that are written out have three digits as their base. */
    private static void codes(String text) {
        Matcher m = CODE.matcher(text.replace("//", ""));
        int found = 0;
        while (m.find()) {
            found++;
            check(m.group(2).length() == 4
                    && Integer.parseInt(m.group(2), 3) == Integer.parseInt(m.group(1)), m.group());
        }
        check(found > 0, "no code is written out");
    }

    private static void rows(String text) {
        Set<String> named = new TreeSet<>();
        Matcher m = ROW.matcher(text);
        while (m.find()) {
            named.add(m.group(1));
            int count = m.group(2).isEmpty() ? 0 : m.group(2).split(", ").length;
            try {
                method(m.group(1), count);
            } catch (NoSuchMethodException e) {
                check(false, "there is no such call: " + m.group());
            }
        }
        check(named.equals(publicNames()), "the table has the calls " + named);
    }

    private static void tests(String text) throws IOException {
        Set<String> named = new TreeSet<>();
        Matcher m = TEST.matcher(text);
        while (m.find()) {
            named.add(m.group(1));
        }
        Set<String> there = new TreeSet<>();
        try (Stream<Path> files = Files.list(TESTS)) {
            files.forEach(f -> there.add(f.getFileName().toString()));
        }
        check(named.equals(there), "tests named: " + named + ", tests there: " + there);
    }
}
