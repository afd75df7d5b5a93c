import java.io.IOException;
import java.lang.reflect.Field;
import java.lang.reflect.Method;
import java.lang.reflect.Modifier;
import java.nio.charset.StandardCharsets;
import java.nio.file.Files;
import java.nio.file.Path;
import java.util.ArrayList;
import java.util.List;
import java.util.Set;
import java.util.regex.Matcher;
import java.util.regex.Pattern;

/** The rules of LANGUAGE.md that can be seen from the class or its text. It runs where .ci/run does. */
public final class FormTest {
    private static final Path SOURCE = Path.of("src/main/java/GalleySetter.java");
    private static final Set<String> IMPORTS = Set.of("java.util.ArrayList", "java.util.Arrays");
    private static final Set<String> LIBRARY = Set.of("System.arraycopy", "Arrays.fill", "Arrays.copyOf",
            "Arrays.copyOfRange", "Math.max", "Math.min", "Math.abs", "Math.floorDiv", "Math.floorMod");
    private static final Set<Class<?>> STATIC_TYPES = Set.of(int.class, long.class, boolean.class,
            char.class, String.class, int[].class, long[].class, char[].class, byte[].class);
    // Some of these are allowed, but the class has no need of them.
    private static final String[] NEVER = {"->", "::", "\\bfinally\\b", "\\bsynchronized\\b", "\\bassert\\b",
        "\\btry\\b", "\\bcatch\\b", "\\bpackage\\b", "\\bstatic\\s*\\{", "\\bprotected\\b", "\\bvar\\b",
        "\\bThread\\b", "\\bRandom\\b", "\\bnanoTime\\b", "\\bcurrentTimeMillis\\b", "\\bdouble\\b",
        "\\bfloat\\b", "\\bequals\\b", "\\bhashCode\\b", "\\btoString\\b"};

    public static void main(String[] args) throws IOException {
        String whole = Files.readString(SOURCE, StandardCharsets.UTF_8);
        Checks.holds("characters 0 to 255 alone", whole.chars().allMatch(c -> c <= 255));
        String code = withoutTexts(whole);
        checkWords(code);
        checkLibrary(code);
        checkThrows(whole);
        checkMethodLengths(code);
        List<Class<?>> classes = new ArrayList<>(List.of(GalleySetter.class.getDeclaredClasses()));
        for (Class<?> inside : classes) {
            Checks.holds("static " + inside, Modifier.isStatic(inside.getModifiers()));
        }
        classes.add(GalleySetter.class);
        Checks.holds("rule 11: some twelve classes", classes.size() <= 12);
        for (Class<?> one : classes) {
            checkFields(one);
            checkParameters(one);
        }
        Checks.end();
    }

    /** The code alone: comments and written texts may hold any word. */
    private static String withoutTexts(String whole) {
        return whole.replaceAll("(?s)/\\*.*?\\*/", "").replaceAll("//[^\n]*", "")
                .replaceAll("\"[^\"\n]*\"", "\"\"");
    }

    private static void checkWords(String code) {
        for (String never : NEVER) {
            Checks.holds("no " + never, !Pattern.compile(never).matcher(code).find());
        }
        Checks.due("rule 1: one public class", count(code, "\\bpublic\\b[^(;{]*\\bclass\\b"), 1);
        Matcher imports = Pattern.compile("import\\s+([^;]+);").matcher(code);
        while (imports.find()) {
            Checks.holds("rule 4: import of " + imports.group(1), IMPORTS.contains(imports.group(1)));
        }
    }

    private static void checkLibrary(String code) {
        Matcher calls = Pattern.compile("\\b(System|Arrays|Math|Integer|Long|String|List)\\.(\\w+)").matcher(code);
        while (calls.find()) {
            String call = calls.group(1) + "." + calls.group(2);
            Checks.holds("rule 4: " + call, LIBRARY.contains(call));
        }
    }

    /** Rule 6: a throw makes one of the exceptions of the face with a written text. */
    private static void checkThrows(String whole) {
        String made = "\\bthrow new (IllegalStateException|IllegalArgumentException"
                + "|IndexOutOfBoundsException|UnsupportedOperationException)\\(\"[^\"\n]*\"\\);";
        Checks.due("rule 6: throws", count(whole, "\\bthrow\\b"), count(whole, made));
    }

    /** Rule 11: every method, and so every block but a class, has at most sixty lines. */
    private static void checkMethodLengths(String code) {
        String[] rows = code.split("\n");
        for (int i = 0; i < rows.length; i++) {
            if (rows[i].matches("\\s*[^\\s}].*\\{") && !rows[i].contains(" class ")) {
                Checks.holds("rule 11: short: " + rows[i].trim(), blockLength(rows, i) <= 60);
            }
        }
    }

    private static int blockLength(String[] rows, int first) {
        int open = 0;
        for (int i = first; i < rows.length; i++) {
            open += count(rows[i], "\\{") - count(rows[i], "\\}");
            if (open == 0) {
                return i - first + 1;
            }
        }
        return rows.length;
    }

    private static void checkFields(Class<?> one) {
        int kept = 0;
        for (Field field : one.getDeclaredFields()) {
            if (field.isSynthetic()) {
                continue;
            }
            if (Modifier.isStatic(field.getModifiers())) {
                Checks.holds("rule 5: final " + field, Modifier.isFinal(field.getModifiers()));
                Checks.holds("rule 5: type of " + field, STATIC_TYPES.contains(field.getType()));
            } else {
                kept++;
            }
        }
        Checks.holds("rule 11: some twenty fields in " + one, kept <= 20);
    }

    private static void checkParameters(Class<?> one) {
        for (Method method : one.getDeclaredMethods()) {
            Checks.holds("rule 11: at most seven parameters: " + method, method.getParameterCount() <= 7);
        }
    }

    private static int count(String where, String what) {
        Matcher found = Pattern.compile(what).matcher(where);
        int times = 0;
        while (found.find()) {
            times++;
        }
        return times;
    }
}
