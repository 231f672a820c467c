import java.io.IOException;
import java.lang.reflect.Constructor;
import java.lang.reflect.Field;
import java.lang.reflect.Method;
import java.lang.reflect.Modifier;
import java.nio.file.Files;
import java.nio.file.Path;
import java.util.Arrays;
import java.util.Set;
import java.util.TreeSet;
import java.util.regex.Matcher;
import java.util.regex.Pattern;

/** The public face of the document, and those rules of LANGUAGE.md that can be tested simply. */
public final class LanguageTest {
    private static final Path SOURCE = Path.of("src/main/java/CodeBreaker.java");
    private static final Set<String> FACE = Set.of(
            "int BAD_ARG", "int FULL", "int NONE", "int MANY", "new [int, int]",
            "int codes[]", "int answer[int, int]", "int tell[int, int, int]", "int forget[]",
            "int told[]", "int possible[]", "int code[int]", "boolean canBe[int]",
            "int parts[int]", "int worst[int]", "int weight[int]", "int safest[]",
            "int sharpest[]", "int need[]", "int needKept[]", "int first[]", "int useful[]");
    private static final String FORBIDDEN = "\\b(import|package|float|double|String|Math|Integer|"
            + "System|Arrays|Object|null|throw|throws|try|catch|finally|synchronized|assert|"
            + "instanceof|enum|interface|record|var)\\b|->|::|\"";

    private static int wrong = 0;

    public static void main(String[] args) throws IOException {
        face();
        fields();
        methods();
        source();
        System.out.println(wrong == 0 ? "face and language are kept" : wrong + " faults");
        if (wrong != 0) {
            System.exit(1);
        }
    }

    private static void check(boolean holds, String fault) {
        if (!holds) {
            wrong++;
            System.out.println(fault);
        }
    }

    private static void face() {
        Class<?> c = CodeBreaker.class;
        check(Modifier.isPublic(c.getModifiers()) && Modifier.isFinal(c.getModifiers()),
                "the class is not public and final");
        check(c.getDeclaredClasses().length == 0, "the class has a nested class");
        check(c.getSuperclass() == Object.class && c.getInterfaces().length == 0,
                "the class extends or implements something");
        Set<String> seen = new TreeSet<>();
        for (Field f : c.getDeclaredFields()) {
            if (!Modifier.isPrivate(f.getModifiers())) {
                seen.add(f.getType() + " " + f.getName());
                check(Modifier.isPublic(f.getModifiers()) && Modifier.isStatic(f.getModifiers())
                        && Modifier.isFinal(f.getModifiers()), f + " is no public constant");
            }
        }
        for (Method m : c.getDeclaredMethods()) {
            if (!Modifier.isPrivate(m.getModifiers())) {
                seen.add(m.getReturnType() + " " + m.getName() + Arrays.toString(m.getParameterTypes()));
                check(Modifier.isPublic(m.getModifiers()) && !Modifier.isStatic(m.getModifiers()),
                        m + " is no public method of objects");
            }
        }
        for (Constructor<?> k : c.getDeclaredConstructors()) {
            seen.add("new " + Arrays.toString(k.getParameterTypes()));
            check(Modifier.isPublic(k.getModifiers()), k + " is not public");
        }
        check(seen.equals(FACE), "the face is " + seen + ", due is " + new TreeSet<>(FACE));
    }

    private static void fields() {
        int held = 0;
        for (Field f : CodeBreaker.class.getDeclaredFields()) {
            boolean isStatic = Modifier.isStatic(f.getModifiers());
            Class<?> type = f.getType();
            held += isStatic ? 0 : 1;
            check(!isStatic || Modifier.isFinal(f.getModifiers())
                    && (type == int.class || type == long.class), f + " is no constant");
            Class<?> plain = type.isArray() ? type.getComponentType() : type;
            check(plain.isPrimitive(), f + " is neither a number nor an array of numbers");
        }
        check(held <= 40, "there are " + held + " fields");
    }

    private static void methods() {
        Set<String> names = new TreeSet<>();
        for (Method m : CodeBreaker.class.getDeclaredMethods()) {
            check(names.add(m.getName()), "two methods are called " + m.getName());
            check(!m.getReturnType().isArray(), m + " answers an array");
            check(m.getParameterCount() <= 7, m + " takes too many parameters");
        }
    }

    private static void source() throws IOException {
        String code = Files.readString(SOURCE)
                .replaceAll("(?s)/\\*.*?\\*/", "")
                .replaceAll("//[^\n]*", "");
        Matcher found = Pattern.compile(FORBIDDEN).matcher(code);
        while (found.find()) {
            check(false, "the source has " + found.group());
        }
        // Arrays are made in the initialisers of fields alone.
        for (String line : code.split("\n")) {
            boolean field = line.matches(
                    "    private final \\w+\\[\\] \\w+ = new \\w+\\[([A-Z_]+|[1-9]\\d*)\\];");
            check(!line.matches(".*\\bnew\\b.*") || field, "an array or object is made in:" + line);
        }
    }
}
