import java.util.Arrays;
import java.util.Random;

/** The sentences of the document's terms about policy 3, least recently used with strides. */
public final class TermsStridesTest {
    private static final Check CHECK = new Check("TermsStridesTest");

    public static void main(String[] args) {
        heldAndEvictedAsByPolicy0();
        atLeastThreeTouches();
        stepsAreCountedAcrossRunsButNotAcrossBegin();
        sameStepTwice();
        stepOfNothing();
        pagesBelow0AndAbove63();
        pageHeldAlready();
        oneFrameIsNotEnough();
        twoFramesAreEnough();
        prefetchWithAnEmptyFrame();
        prefetchWithoutAnEmptyFrame();
        prefetchCountsAsTouched();
        prefetchIsNoTouch();
        usefulBeforeItsEviction();
        usefulOnce();
        usefulAgainAfterAnotherPrefetch();
        beginForgetsWhatWasPrefetched();
        CHECK.end();
    }

    // "Pages are held and evicted as by policy 0", which shows where nothing is prefetched
    private static void heldAndEvictedAsByPolicy0() {
        for (int frames = 1; frames <= 16; frames++) {
            Random random = new Random(frames);
            Swapmere lab = Touching.with(frames, 8);
            for (int i = 0; i < 60; i++) {
                int page = random.nextInt(2 * frames + 2);
                // Two equal pages make a step of 0, so that no two steps are equal but those of 0.
                lab.touch(page);
                lab.touch(page);
                String when = frames + " frames after two touches of " + page + ", the " + i + "th";
                CHECK.due(when + ": pages held", Touching.pagesThat(one -> lab.holds(0, one)),
                    () -> Touching.pagesThat(one -> lab.holds(3, one)));
                CHECK.due(when + ": victim", Check.answerOf(() -> lab.victim(0)),
                    () -> lab.victim(3));
            }
            CHECK.due(frames + " frames: faults", lab.faults(0), () -> lab.faults(3));
            CHECK.due(frames + " frames: prefetches", 0, lab::prefetches);
        }
    }

    // "if there are at least three touches"
    private static void atLeastThreeTouches() {
        after(4).has("", 0, 0);
        after(4, 1).has("1", 0, 0);
        after(4, 1, 2).has("1 2", 0, 0);
        after(4, 1, 2, 3).has("1 2 3 4", 1, 0);
        // A touch before the first one would be on page 0, if there was one.
        after(4, 0).has("0", 0, 0);
        after(4, 7, 14).has("7 14", 0, 0);
        after(4, 0, 7).has("0 7", 0, 0);
        after(4, 0, 7, 14).has("0 7 14 21", 1, 0);
    }

    private static void stepsAreCountedAcrossRunsButNotAcrossBegin() {
        Swapmere runs = Touching.with(8, 8);
        runs.touchRun(1, 1, 2);
        CHECK.due("a run of two", 0, runs::prefetches);
        runs.touchRun(3, 5, 1);
        CHECK.due("a run of two and a run of one", 1, runs::prefetches);
        runs.touchRun(10, 3, 2);
        CHECK.due("another step", 1, runs::prefetches);
        runs.touch(16);
        CHECK.due("a run and a touch", 2, runs::prefetches);
        Swapmere begun = Touching.with(8, 8, 1, 2);
        begun.begin(8, 8);
        Touching.touchAll(begun, 3, 4);
        CHECK.due("two touches after begin", 0, begun::prefetches);
        begun.touch(5);
        CHECK.due("three touches after begin", 1, begun::prefetches);
    }

    // "is the same number d as the page of the touch before it less that of the one before that"
    private static void sameStepTwice() {
        after(4, 1, 2, 4).has("1 2 4", 0, 0);
        after(4, 1, 3, 4).has("1 3 4", 0, 0);
        after(4, 5, 6, 5).has("5 6", 0, 0);
        after(4, 5, 6, 6).has("5 6", 0, 0);
        after(4, 5, 5, 6).has("5 6", 0, 0);
        after(4, 9, 7, 5).has("3 5 7 9", 1, 0);
        // The steps of the latest three touches alone are looked at.
        after(6, 1, 2, 3, 9, 20, 31).has("3 4 9 20 31 42", 2, 0);
    }

    // "and d is not 0"
    private static void stepOfNothing() {
        after(4, 5, 5, 5).has("5", 0, 0);
        after(4, 0, 0, 0, 0).has("0", 0, 0);
        after(2, 63, 63, 63).has("63", 0, 0);
    }

    // "if there is such a page"
    private static void pagesBelow0AndAbove63() {
        after(4, 60, 61, 62).has("60 61 62 63", 1, 0);
        after(4, 61, 62, 63).has("61 62 63", 0, 0);
        after(4, 3, 2, 1).has("0 1 2 3", 1, 0);
        after(4, 2, 1, 0).has("0 1 2", 0, 0);
        after(4, 0, 21, 42).has("0 21 42 63", 1, 0);
        after(4, 1, 22, 43).has("1 22 43", 0, 0);
        after(4, 63, 42, 21).has("0 21 42 63", 1, 0);
        after(4, 62, 41, 20).has("20 41 62", 0, 0);
        after(4, 0, 31, 62).has("0 31 62", 0, 0);
        after(4, 1, 32, 63).has("1 32 63", 0, 0);
        after(4, 63, 32, 1).has("1 32 63", 0, 0);
        after(4, 0, 63, 0, 63).has("0 63", 0, 0);
        // At full frames nothing is evicted for a page that is not there.
        after(3, 61, 62, 63).has("61 62 63", 0, 0);
        after(3, 2, 1, 0).has("0 1 2", 0, 0);
    }

    // "it is not held"
    private static void pageHeldAlready() {
        // Held by a touch.
        after(4, 8, 5, 6, 7).has("5 6 7 8", 0, 0);
        // Held by a prefetch: 4 is prefetched behind 3, and again due behind 5.
        after(16, 1, 2, 3, 7, 6, 5).has("1 2 3 4 5 6 7", 1, 0);
        after(16, 1, 2, 3, 7, 6, 5, 4).has("1 2 3 4 5 6 7", 1, 1);
        // Not held any more: the fault of 7 evicted 8 before.
        after(3, 8, 5, 6, 7).has("6 7 8", 1, 0);
        // A page held that is due is not renewed: 8 is the next to go.
        after(4, 8, 5, 6, 7).wouldEvict(8);
        after(4, 8, 5, 6, 7, 40).has("5 6 7 40", 0, 0);
    }

    // "and m is at least 2"
    private static void oneFrameIsNotEnough() {
        after(1, 1, 2, 3).has("3", 0, 0);
        after(1, 1, 2, 3, 4, 5).has("5", 0, 0);
        after(1, 9, 6, 3, 0).has("0", 0, 0);
    }

    private static void twoFramesAreEnough() {
        after(2, 1, 2).has("1 2", 0, 0);
        // The fault evicts 1, and the prefetch 2.
        after(2, 1, 2, 3).has("3 4", 1, 0);
        after(2, 1, 2, 3).wouldEvict(3);
        after(2, 1, 2, 3, 4).has("4 5", 2, 1);
        after(2, 1, 2, 3, 4, 5).has("5 6", 3, 2);
    }

    // "if m pages are held, the one that was touched or prefetched longest ago is evicted"
    private static void prefetchWithAnEmptyFrame() {
        after(4, 1, 2, 3).has("1 2 3 4", 1, 0);
        after(4, 1, 2, 3).wouldEvict(1);
        after(5, 1, 2, 3).has("1 2 3 4", 1, 0);
        after(5, 1, 2, 3).wouldEvict(Check.NO_ELEMENT);
        after(16, 1, 2, 3).has("1 2 3 4", 1, 0);
    }

    private static void prefetchWithoutAnEmptyFrame() {
        after(3, 1, 2, 3).has("2 3 4", 1, 0);
        after(3, 2, 1, 2, 3).has("2 3 4", 1, 0);
        // 1 was touched again, so that 9 goes for the prefetch of 4.
        after(4, 9, 1, 2, 3).has("1 2 3 4", 1, 0);
        after(4, 1, 9, 1, 2, 3).has("1 2 3 4", 1, 0);
        // The victim of a fault is not that of a prefetch behind it, which would be 20.
        after(3, 10, 20, 30).wouldEvict(20);
        after(3, 50, 10, 20).wouldEvict(50);
        after(3, 50, 10, 20, 30).has("20 30 40", 1, 0);
    }

    // "where a prefetched page counts as touched at the moment at which it is prefetched"
    private static void prefetchCountsAsTouched() {
        // 4 was prefetched behind the touch of 3.
        after(4, 1, 2, 3, 20, 30, 50).has("4 20 30 50", 1, 0);
        after(4, 1, 2, 3, 20, 30, 50).wouldEvict(4);
        after(4, 1, 2, 3, 20, 30, 50, 9).has("9 20 30 50", 1, 0);
        after(4, 1, 2, 3, 20, 3, 30, 50).has("3 20 30 50", 1, 0);
    }

    private static void prefetchIsNoTouch() {
        Swapmere lab = Touching.with(4, 8, 1, 2, 3);
        CHECK.due("touches", 3, lab::touches);
        CHECK.due("faults of policy 3", 3, () -> lab.faults(3));
        CHECK.due("the touch of a prefetched page is no fault of policy 3", 7, () -> lab.touch(4));
        CHECK.due("faults of policy 3 after it", 3, () -> lab.faults(3));
        CHECK.due("policy 0 holds no prefetched page", false, () -> lab.holds(0, 5));
        CHECK.due("policy 3 holds it", true, () -> lab.holds(3, 5));
        CHECK.due("a prefetch has no part in the working set", 4, () -> lab.workingSet(3));
    }

    // "A prefetch is useful if its page is touched before it is evicted."
    private static void usefulBeforeItsEviction() {
        after(4, 1, 2, 3, 20, 30, 50).has("4 20 30 50", 1, 0);
        // Touched as the next to go, and touched just after it went.
        after(4, 1, 2, 3, 20, 30, 50, 4).has("4 20 30 50", 1, 1);
        after(4, 1, 2, 3, 20, 30, 50, 9, 4).has("4 9 30 50", 1, 0);
        after(4, 1, 2, 3, 20, 30, 50, 9, 4, 4).has("4 9 30 50", 1, 0);
        // Evicted by a prefetch: 4 went for 0.
        after(3, 1, 2, 3, 2, 1).has("0 1 2", 2, 0);
        after(3, 1, 2, 3, 2, 1, 4).has("0 1 4", 2, 0);
        after(3, 1, 2, 3, 2, 1, 4, 4).has("0 1 4", 2, 0);
        after(3, 1, 2, 3, 2, 1, 0).has("0 1 2", 2, 1);
    }

    private static void usefulOnce() {
        after(4, 1, 2, 3, 4, 4, 4).has("2 3 4 5", 2, 1);
        // 4 was useful, was evicted, and is touched again.
        after(4, 1, 2, 3, 4, 20, 9, 30, 50, 4).has("4 9 30 50", 2, 1);
        after(4, 1, 2, 3, 4, 20, 9, 30, 50, 4, 4).has("4 9 30 50", 2, 1);
    }

    private static void usefulAgainAfterAnotherPrefetch() {
        // 4 is prefetched, evicted, and prefetched again.
        after(2, 1, 2, 3, 20, 40).has("20 40", 1, 0);
        after(2, 1, 2, 3, 20, 40, 1, 2, 3).has("3 4", 2, 0);
        after(2, 1, 2, 3, 20, 40, 1, 2, 3, 4).has("4 5", 3, 1);
        // 4 was useful, and is useful again.
        after(2, 1, 2, 3, 4, 20, 40, 1, 2, 3, 4).has("4 5", 4, 2);
    }

    // "Starts again without touches."
    private static void beginForgetsWhatWasPrefetched() {
        // 0, 4 and 63 are prefetched, and not touched before begin.
        for (int[] pages : new int[][] {{3, 2, 1, 0}, {1, 2, 3, 4}, {60, 61, 62, 63}}) {
            Swapmere lab = Touching.with(4, 8, pages[0], pages[1], pages[2]);
            CHECK.due("prefetches before begin", 1, lab::prefetches);
            lab.begin(4, 8);
            CHECK.due("prefetches after begin", 0, lab::prefetches);
            CHECK.due("the first touch after begin", 15, () -> lab.touch(pages[3]));
            CHECK.due("the second touch after begin", 0, () -> lab.touch(pages[3]));
            CHECK.due("useful prefetches after begin", 0, lab::usefulPrefetches);
        }
    }

    private static Strides after(int frames, int... pages) {
        return new Strides(frames, pages);
    }

    /** Policy 3 after some touches. */
    private static final class Strides {
        private final String when;
        private final Swapmere lab;

        Strides(int frames, int[] pages) {
            when = frames + " frames after " + Arrays.toString(pages);
            lab = Touching.with(frames, 8, pages);
        }

        void has(String pages, int prefetches, int useful) {
            CHECK.due(when + ": pages held", pages,
                () -> Touching.pagesThat(page -> lab.holds(3, page)));
            CHECK.due(when + ": prefetches", prefetches, lab::prefetches);
            CHECK.due(when + ": useful prefetches", useful, lab::usefulPrefetches);
        }

        void wouldEvict(Object page) {
            CHECK.due(when + ": victim", page, () -> lab.victim(3));
        }
    }
}
