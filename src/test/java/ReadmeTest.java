import java.io.IOException;
import java.io.UncheckedIOException;
import java.lang.reflect.Method;
import java.lang.reflect.Modifier;
import java.nio.file.Files;
import java.nio.file.Path;
import java.util.TreeSet;
import java.util.regex.Matcher;
import java.util.regex.Pattern;
import java.util.stream.Collectors;
import java.util.stream.Stream;

/** What README.md says holds for the class: its example, its calls, its list of tests. */
public final class ReadmeTest {
    private static final Check CHECK = new Check("ReadmeTest");
    private static final Path TESTS = Path.of("src/test/java");

    private final String text;
    private int examples = 0;

    private ReadmeTest(String text) {
        this.text = text;
    }

    public static void main(String[] args) throws IOException {
        ReadmeTest readme = new ReadmeTest(Files.readString(Path.of("README.md")));
        readme.example();
        readme.calls();
        readme.tests();
        askingChangesNothing();
        objectsHaveNothingInCommon();
        CHECK.end();
    }

    private void example() {
        says("Swapmere lab = new Swapmere();", "4 frames, a window of 8, no touches");
        Swapmere lab = new Swapmere();
        CHECK.due("no touches", 0, lab::touches);
        says("lab.begin(3, 5);", "starts again: 3 frames, a window of 5");
        lab.begin(3, 5);
        answers("lab.touch(7);", lab.touch(7));
        answers("lab.touchRun(0, 1, 10);", lab.touchRun(0, 1, 10));
        int faulting = lab.touch(7);
        CHECK.due("the second touch of 7", 8, () -> faulting);
        says("lab.touch(7);", "8: policy 3 alone faults, as it prefetched 10 and evicted 7");
        CHECK.due("10 was prefetched, and 7 is back", "7 9 10",
            () -> Touching.pagesThat(page -> lab.holds(3, page)));
        answers("lab.faults(0);", lab.faults(0));
        answers("lab.faults(3);", lab.faults(3));
        answers("lab.victim(0);", lab.victim(0));
        answers("lab.refaultDistance(7);", lab.refaultDistance(7));
        answers("lab.workingSet(11);", lab.workingSet(11));
        answers("lab.faultsWith(8);", lab.faultsWith(8));
        answers("lab.bestFaults(3);", lab.bestFaults(3));
        answers("lab.ratio(0);", lab.ratio(0));
        CHECK.due("lines of the example", text.lines().filter(ReadmeTest::isOfTheExample).count(),
            () -> (long) examples);
    }

    private static boolean isOfTheExample(String line) {
        return line.startsWith("lab.") || line.startsWith("Swapmere lab");
    }

    private void answers(String call, Object answer) {
        says(call, answer + ": ");
    }

    private void says(String call, String comment) {
        examples++;
        CHECK.due("a line " + call + " // " + comment, true, () -> text.lines().anyMatch(
            line -> line.startsWith(call) && line.contains("// " + comment)));
    }

    /** Each call of the face has its row, and each row is of such a call. */
    private void calls() {
        TreeSet<String> due = new TreeSet<>();
        due.add("Swapmere/0");
        for (Method method : Swapmere.class.getDeclaredMethods()) {
            if (Modifier.isPublic(method.getModifiers())) {
                due.add(method.getName() + "/" + method.getParameterCount());
            }
        }
        TreeSet<String> found = new TreeSet<>();
        Matcher row = Pattern.compile("(?m)^\\| `(\\w+)\\(([^)]*)\\)` \\|").matcher(text);
        while (row.find()) {
            String arguments = row.group(2);
            int count = arguments.isEmpty() ? 0 : arguments.split(",").length;
            found.add(row.group(1) + "/" + count);
        }
        CHECK.due("the calls", due, () -> found);
    }

    /** Each test is named, and each test named is there. */
    private void tests() {
        TreeSet<String> found = new TreeSet<>();
        Matcher name = Pattern.compile("`(\\w+Test)`").matcher(text);
        while (name.find()) {
            found.add(name.group(1));
        }
        CHECK.due("the tests", testsThere(), () -> found);
    }

    private static TreeSet<String> testsThere() {
        try (Stream<Path> files = Files.list(TESTS)) {
            return files.map(file -> file.getFileName().toString())
                .filter(name -> name.endsWith("Test.java"))
                .map(name -> name.substring(0, name.length() - ".java".length()))
                .collect(Collectors.toCollection(TreeSet::new));
        } catch (IOException e) {
            throw new UncheckedIOException(e);
        }
    }

    // "Asking changes nothing either"
    private static void askingChangesNothing() {
        for (State state : State.ALL) {
            CHECK.due("asking in " + state.name, true,
                () -> state.isLeftAsItWasBy(ReadmeTest::askEachCall));
        }
    }

    private static void askEachCall(Swapmere lab) {
        for (int policy = 0; policy < 4; policy++) {
            int asked = policy;
            lab.faults(policy);
            lab.holds(policy, 5);
            lab.held(policy);
            Check.answerOf(() -> lab.victim(asked));
            Check.answerOf(() -> lab.ratio(asked));
            lab.listSize(policy + 1);
        }
        lab.touches();
        Check.answerOf(() -> lab.pageOf(0));
        lab.hand();
        lab.isReferenced(5);
        lab.listOf(5);
        lab.target();
        lab.prefetches();
        lab.usefulPrefetches();
        lab.refaults(400);
        Check.answerOf(() -> lab.refaultDistance(5));
        Check.answerOf(() -> lab.workingSet(0));
        Check.answerOf(lab::averageWorkingSet);
        lab.faultsWith(16);
        lab.bestFaults(1);
        lab.bestFaults(16);
    }

    // "objects have nothing in common with one another"
    private static void objectsHaveNothingInCommon() {
        CHECK.due("an object beside others", true,
            () -> State.IN_USE.isLeftAsItWasBy(ReadmeTest::useAnother));
    }

    private static void useAnother(Swapmere lab) {
        Swapmere other = Touching.with(2, 3, 6, 7, 8, 6, 50);
        other.touchRun(0, 1, 64);
        other.bestFaults(16);
        CHECK.due("the other object", 69, other::touches);
    }
}
