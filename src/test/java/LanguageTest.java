import java.io.IOException;
import java.lang.reflect.Field;
import java.lang.reflect.Method;
import java.lang.reflect.Modifier;
import java.nio.file.Files;
import java.nio.file.Path;
import java.util.ArrayList;
import java.util.List;
import java.util.Set;
import java.util.TreeSet;
import java.util.regex.Matcher;
import java.util.regex.Pattern;

/** Those rules of ../shared/LANGUAGE.md that can be checked by a look at the class. */
public final class LanguageTest {
    private static final Check CHECK = new Check("LanguageTest");
    private static final String NOT_CODE =
        "//[^\\n]*|/\\*(?s:.*?)\\*/|\"(?:\\\\.|[^\"\\\\])*\"|'(?:\\\\.|[^'\\\\])'";

    private final String code;
    private final List<Class<?>> classes = new ArrayList<>();

    private LanguageTest(String source) {
        code = source.replaceAll(NOT_CODE, "\"\"");
        classes.add(Swapmere.class);
        classes.addAll(List.of(Swapmere.class.getDeclaredClasses()));
    }

    public static void main(String[] args) throws IOException {
        LanguageTest test =
            new LanguageTest(Files.readString(Path.of("src/main/java/Swapmere.java")));
        test.rule1();
        test.rules2And3();
        test.rule4();
        test.rule5();
        test.rule6();
        test.rule11();
        test.rule13();
        CHECK.end();
    }

    // No package line; no other method bears the name of a public one; classes inside are static.
    private void rule1() {
        absent("1: package", "\\bpackage\\b");
        Set<String> face = new TreeSet<>();
        for (Method method : Swapmere.class.getMethods()) {
            face.add(method.getName());
        }
        List<String> twice = new ArrayList<>();
        for (Class<?> one : classes) {
            for (Method method : one.getDeclaredMethods()) {
                boolean isOfTheFace = Modifier.isPublic(method.getModifiers());
                if (!isOfTheFace && face.contains(method.getName())) {
                    twice.add(one.getSimpleName() + "." + method.getName());
                }
            }
        }
        CHECK.due("1: methods with the name of a public one", "[]", () -> twice);
        for (Class<?> one : Swapmere.class.getDeclaredClasses()) {
            int modifiers = one.getModifiers();
            CHECK.due("1: " + one.getSimpleName() + " is static, and not for others", true,
                () -> Modifier.isStatic(modifiers) && !Modifier.isPublic(modifiers)
                    && !Modifier.isProtected(modifiers));
        }
    }

    private void rules2And3() {
        absent("2: a lambda", "->");
        absent("2: a method reference", "::");
        absent("an annotation", "@");
        absent("3: var", "\\bvar\\b");
        absent("3: three dimensions, or two of objects", "\\[\\]\\s*\\[\\]\\s*\\[\\]|[A-Z]\\w*\\[\\]\\[");
    }

    private void rule4() {
        CHECK.due("4: imports", "[java.util.Arrays, java.util.NoSuchElementException]",
            () -> found("(?m)^import ([^;]+);"));
        CHECK.due("4: functions of the library", "[Arrays.fill, Math.max, Math.min]",
            () -> found("\\b((?:Arrays|Math|Integer|Long|System|String|List|Objects)\\.\\w+)"));
        absent("4: a name with its package", "\\bjava\\.(?!util\\.(?:Arrays|NoSuchElement))");
    }

    private void rule5() {
        for (Class<?> one : classes) {
            for (Field field : one.getDeclaredFields()) {
                int modifiers = field.getModifiers();
                CHECK.due("5: " + field.getName() + " is static, but not final", false,
                    () -> Modifier.isStatic(modifiers) && !Modifier.isFinal(modifiers));
            }
        }
        absent("5: a static block", "\\bstatic\\s*\\{");
    }

    private void rule6() {
        for (String word : List.of("finally", "synchronized", "assert", "getMessage", "hashCode",
            "toString", "boolean equals")) {
            absent("6: " + word, "\\b" + word + "\\b");
        }
        absent("6: an exception of the machine", "\\b(?:ArrayIndexOutOfBounds|NullPointer|ClassCast|"
            + "NegativeArraySize|ArrayStore)Exception\\b");
        CHECK.due("6: exceptions", "[IllegalArgumentException, IllegalStateException, "
            + "NoSuchElementException]", () -> found("throw new (\\w+)\\(\"\"\\);"));
        CHECK.due("6: throws in another form", count("throw new \\w+\\(\"\"\\);"),
            () -> count("\\bthrow\\b"));
    }

    private void rule11() {
        CHECK.due("11: more than twelve classes", false, () -> classes.size() > 12);
        for (Class<?> one : classes) {
            CHECK.due("11: fields of " + one.getSimpleName() + " above twenty", false,
                () -> ownFields(one) > 20);
            for (Method method : one.getDeclaredMethods()) {
                CHECK.due("11: parameters of " + method.getName() + " above seven", false,
                    () -> method.getParameterCount() > 7);
            }
        }
        int longest = 0;
        Matcher body = Pattern.compile("(?m)^( +)[^\\n;]*\\) (?:throws [^\\n{]*)?\\{\\n(?s:.*?)^\\1\\}")
            .matcher(code);
        int bodies = 0;
        while (body.find()) {
            longest = Math.max(longest, (int) body.group().lines().count());
            bodies++;
        }
        int lines = longest;
        int methods = bodies;
        CHECK.due("11: a method has more than sixty lines", false, () -> lines > 60);
        CHECK.due("11: methods were looked at", true, () -> methods > 60);
    }

    private static long ownFields(Class<?> one) {
        long fields = 0;
        for (Field field : one.getDeclaredFields()) {
            fields += Modifier.isStatic(field.getModifiers()) ? 0 : 1;
        }
        return fields;
    }

    private void rule13() {
        absent("13: a clock, randomness, a file, network, thread or environment",
            "\\b(?:System|Random|Thread|Runtime|Instant|Clock|File|Files|Process\\w*|Socket)\\b");
    }

    private void absent(String what, String pattern) {
        CHECK.due(what, 0L, () -> count(pattern));
    }

    private long count(String pattern) {
        return Pattern.compile(pattern).matcher(code).results().count();
    }

    private TreeSet<String> found(String pattern) {
        TreeSet<String> all = new TreeSet<>();
        Matcher matcher = Pattern.compile(pattern).matcher(code);
        while (matcher.find()) {
            all.add(matcher.group(1));
        }
        return all;
    }
}
