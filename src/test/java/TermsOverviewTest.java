import java.io.IOException;
import java.nio.file.Files;
import java.nio.file.Path;
import java.util.Arrays;
import java.util.Random;
import java.util.regex.Matcher;
import java.util.regex.Pattern;

/** The first sentences of the document's terms, and those about the sections of the face. */
public final class TermsOverviewTest {
    private static final Check CHECK = new Check("TermsOverviewTest");
    private static final Path SOURCE = Path.of("src/main/java/Swapmere.java");
    private static final Pattern PUBLIC_METHOD =
        Pattern.compile("public (?:int|boolean|float|void) (\\w+)\\(");

    public static void main(String[] args) throws IOException {
        whichPoliciesFault();
        faultsAreThoseThatTheTouchesTold();
        allPoliciesHaveTheSameFrames();
        whatElseCanBeAsked();
        sectionsOfTheFace(Files.readString(SOURCE));
        CHECK.end();
    }

    // "four policies with the same number of frames see each touch at once, and tell which of
    // them fault": each of the sixteen answers, by the last of some touches with three frames.
    private static void whichPoliciesFault() {
        answers(0, 0, 0);
        answers(1, 0, 3, 3, 0, 1, 2, 3);
        answers(2, 0, 1, 0, 2, 3, 0);
        answers(3, 0, 0, 3, 2, 1, 0);
        answers(4, 0, 0, 1, 3, 2, 1);
        answers(5, 0, 3, 0, 1, 2, 3);
        answers(6, 0, 1, 2, 0, 3, 3, 1, 0);
        answers(7, 0, 1, 2, 3);
        answers(8, 0, 1, 2, 0);
        answers(9, 0, 1, 1, 0, 2, 3, 1);
        answers(10, 0, 1, 0, 2, 4, 0);
        answers(11, 0, 0, 1, 2, 3, 0);
        answers(12, 0, 0, 1, 2, 3, 1);
        answers(13, 0, 1, 0, 2, 3, 1);
        answers(14, 0, 2, 1, 2, 3, 3, 0, 2);
        answers(15, 0);
    }

    private static void answers(int faulting, int... pages) {
        String when = "the last touch of " + Arrays.toString(pages);
        int before = pages.length - 1;
        Swapmere lab = Touching.with(3, 8, Arrays.copyOf(pages, before));
        for (int policy = 0; policy < 4; policy++) {
            int asked = policy;
            CHECK.due(when + ": held before by policy " + policy, (faulting >> policy & 1) == 0,
                () -> lab.holds(asked, pages[before]));
        }
        CHECK.due(when, faulting, () -> lab.touch(pages[before]));
    }

    // "Pages are touched one after the other"; what touch tells of each is what faults counts.
    private static void faultsAreThoseThatTheTouchesTold() {
        for (int frames = 1; frames <= 16; frames++) {
            Random random = new Random(frames);
            Swapmere lab = Touching.with(frames, 8);
            int[] told = new int[4];
            for (int i = 0; i < 400; i++) {
                int faulting = lab.touch(random.nextInt(2 * frames + 2));
                for (int policy = 0; policy < 4; policy++) {
                    told[policy] += faulting >> policy & 1;
                }
            }
            for (int policy = 0; policy < 4; policy++) {
                int asked = policy;
                CHECK.due(frames + " frames: faults of policy " + policy, told[policy],
                    () -> lab.faults(asked));
            }
        }
    }

    private static void allPoliciesHaveTheSameFrames() {
        for (int frames = 1; frames <= 16; frames++) {
            int m = frames;
            Swapmere lab = Touching.with(frames, 8);
            lab.touchRun(0, 3, 20);
            for (int policy = 0; policy < 4; policy++) {
                int asked = policy;
                CHECK.due(frames + " frames of policy " + policy, m, () -> lab.held(asked));
            }
        }
    }

    // "Besides, refault distances, working sets, curves of faults for all numbers of frames, and
    // the faults of the best replacement in hindsight can be asked."
    private static void whatElseCanBeAsked() {
        Swapmere lab = Touching.with(2, 3, 1, 2, 3, 1, 2, 2, 4, 1);
        CHECK.due("the refault distance of 1", 0, () -> lab.refaultDistance(1));
        CHECK.due("the refault distance of 2", 0, () -> lab.refaultDistance(2));
        CHECK.due("the working set of the last touch", 3, () -> lab.workingSet(7));
        CHECK.due("the working set of the touch before the last but one", 2,
            () -> lab.workingSet(5));
        int[] curve = {7, 7, 4, 4, 4, 4, 4, 4, 4, 4, 4, 4, 4, 4, 4, 4};
        int[] best = {7, 5, 4, 4, 4, 4, 4, 4, 4, 4, 4, 4, 4, 4, 4, 4};
        for (int frames = 1; frames <= 16; frames++) {
            int asked = frames;
            CHECK.due("the curve at " + frames, curve[frames - 1], () -> lab.faultsWith(asked));
            CHECK.due("the best at " + frames, best[frames - 1], () -> lab.bestFaults(asked));
        }
    }

    // "Ahead of the calls ... the interface says: ---- policies.", and so of the other sections
    private static void sectionsOfTheFace(String source) {
        String[] parts = source.split("// ---- ");
        CHECK.due("the sections", 4, () -> parts.length);
        section(parts, 0, "", "begin touch touchRun touches pageOf");
        section(parts, 1, "policies", "faults holds held victim hand isReferenced listOf listSize "
            + "target prefetches usefulPrefetches");
        section(parts, 2, "refaults and working sets",
            "refaults refaultDistance workingSet averageWorkingSet");
        section(parts, 3, "hindsight", "faultsWith bestFaults ratio");
    }

    private static void section(String[] parts, int number, String title, String methods) {
        if (number > 0) {
            CHECK.due("the title of section " + number, title,
                () -> parts[number].lines().findFirst().orElse(""));
        }
        CHECK.due("the methods of section " + number, methods, () -> methodsIn(parts[number]));
    }

    private static String methodsIn(String part) {
        StringBuilder names = new StringBuilder();
        Matcher matcher = PUBLIC_METHOD.matcher(part);
        while (matcher.find()) {
            names.append(names.length() > 0 ? " " : "").append(matcher.group(1));
        }
        return names.toString();
    }
}
