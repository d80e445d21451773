import java.util.Random;

/** The sentences of the document's terms about refaults, working sets and the best replacement. */
public final class TermsHistoryTest {
    private static final Check CHECK = new Check("TermsHistoryTest");

    public static void main(String[] args) {
        firstFaultIsNoRefault();
        distance0();
        evictionOfTheFaultItselfDoesNotCount();
        distancesJustWithinAndJustBeyond();
        largestDistance();
        refaultsAreThoseOfPolicy0();
        latestRefaultOnAPage();
        windowOf1();
        windowOf100();
        workingSetWithFewerTouchesThanTheWindow();
        workingSetsOfEveryWindow();
        averageOfOneAndOfAllTouches();
        beginForgetsRefaultsAndWorkingSets();
        faultsWithOneAndSixteenFrames();
        faultsWithAsManyFramesAsThereAre();
        bestWithOneAndSixteenFrames();
        bestEvictsAPageWithoutANextTouch();
        bestEvictsTheFarthestNextTouch();
        bestKnowsOnlyTheTouchesSoFar();
        ratioOfTheBest();
        CHECK.end();
    }

    // "A fault of policy 0 on a page that it held before is a refault"
    private static void firstFaultIsNoRefault() {
        Swapmere lab = Touching.with(1, 8);
        lab.touchRun(0, 1, 64);
        CHECK.due("64 first faults", 0, () -> lab.refaults(400));
        CHECK.due("no refault on a page evicted", Check.NO_ELEMENT, () -> lab.refaultDistance(0));
        CHECK.due("no refault on a page held", Check.NO_ELEMENT, () -> lab.refaultDistance(63));
        lab.touch(63);
        CHECK.due("a touch of a held page", 0, () -> lab.refaults(400));
        CHECK.due("no refault by a hit", Check.NO_ELEMENT, () -> lab.refaultDistance(63));
        lab.touch(0);
        CHECK.due("a refault", 1, () -> lab.refaults(400));
    }

    private static void distance0() {
        Swapmere lab = Touching.with(1, 8, 1, 2, 1);
        CHECK.due("1 went for 2, and came back", 0, () -> lab.refaultDistance(1));
        CHECK.due("a refault with distance 0", 1, () -> lab.refaults(0));
        CHECK.due("no refault on 2 yet", Check.NO_ELEMENT, () -> lab.refaultDistance(2));
        Swapmere four = Touching.with(4, 8, 1, 20, 40, 60, 5, 1);
        CHECK.due("1 went for 5, and came back", 0, () -> four.refaultDistance(1));
        CHECK.due("refaults(0) with four frames", 1, () -> four.refaults(0));
    }

    // "that of the fault itself not included"
    private static void evictionOfTheFaultItselfDoesNotCount() {
        Swapmere lab = Touching.with(2, 8, 1, 2, 3, 1);
        // The fault of 1 evicts 2, and counts for 2 alone, whose own eviction it is.
        CHECK.due("the refault of 1", 0, () -> lab.refaultDistance(1));
        lab.touch(2);
        CHECK.due("the refault of 2", 0, () -> lab.refaultDistance(2));
        lab.touch(40);
        lab.touch(3);
        // 3 went for 2, behind that 1 for 40, and 2 goes for 3 itself.
        CHECK.due("the refault of 3", 1, () -> lab.refaultDistance(3));
    }

    // "refaults with that distance or a lesser one"
    private static void distancesJustWithinAndJustBeyond() {
        for (int between = 0; between <= 62; between++) {
            int distance = between;
            Swapmere lab = Touching.with(1, 8, 63);
            lab.touchRun(0, 1, distance + 1);
            lab.touch(63);
            CHECK.due("a refault with distance " + distance, distance,
                () -> lab.refaultDistance(63));
            CHECK.due("refaults with distance " + distance, 1, () -> lab.refaults(distance));
            CHECK.due("refaults with any distance", 1, () -> lab.refaults(400));
            if (distance > 0) {
                CHECK.due("refaults with a lesser distance than " + distance, 0,
                    () -> lab.refaults(distance - 1));
            }
        }
    }

    private static void largestDistance() {
        // Between the first touch and the last there are 398 faults, the first of which evicts 0.
        Swapmere lab = Touching.with(1, 8, 0);
        for (int i = 0; i < 199; i++) {
            lab.touchRun(1, 1, 2);
        }
        lab.touch(0);
        CHECK.due("400 faults", 400, () -> lab.faults(0));
        CHECK.due("the largest distance", 397, () -> lab.refaultDistance(0));
        CHECK.due("all but two of the faults between are refaults", 396, () -> lab.refaults(0));
        CHECK.due("no more with distance 1", 396, () -> lab.refaults(1));
        CHECK.due("just below the largest distance", 396, () -> lab.refaults(396));
        CHECK.due("the largest distance itself", 397, () -> lab.refaults(397));
        CHECK.due("beyond the largest distance", 397, () -> lab.refaults(398));
        CHECK.due("the end of the range", 397, () -> lab.refaults(400));
    }

    // "Refaults are those of policy 0."
    private static void refaultsAreThoseOfPolicy0() {
        // Policy 1 evicts 1 for 9, policy 0 evicts 2.
        Swapmere clock = Touching.with(3, 8, 1, 2, 5, 1, 9, 1);
        CHECK.due("a fault of policy 1", false, () -> clock.isReferenced(2));
        CHECK.due("no refault of policy 0", 0, () -> clock.refaults(400));
        clock.touch(2);
        CHECK.due("a refault of policy 0", 1, () -> clock.refaults(400));
        // Policy 3 has prefetched 4, which policy 0 never held.
        Swapmere strides = Touching.with(3, 8, 1, 2, 3, 20, 30, 50, 4);
        CHECK.due("a page that was prefetched alone", 0, () -> strides.refaults(400));
        CHECK.due("no distance of it", Check.NO_ELEMENT, () -> strides.refaultDistance(4));
    }

    // "Returns the distance of the latest refault on a page."
    private static void latestRefaultOnAPage() {
        Swapmere lab = Touching.with(1, 8, 1, 2, 1, 2, 3, 4, 1);
        CHECK.due("the second refault on 1", 2, () -> lab.refaultDistance(1));
        CHECK.due("the refault on 2", 0, () -> lab.refaultDistance(2));
        CHECK.due("both refaults on 1 and that on 2", 3, () -> lab.refaults(2));
        CHECK.due("the first refault on 1 and that on 2", 2, () -> lab.refaults(1));
        lab.touch(2);
        lab.touch(1);
        CHECK.due("the third refault on 1", 0, () -> lab.refaultDistance(1));
    }

    // "w is the window, 1 to 100"
    private static void windowOf1() {
        Swapmere lab = Touching.with(4, 1, 1, 2, 2, 3, 1);
        for (int touch = 0; touch < 5; touch++) {
            int asked = touch;
            CHECK.due("a window of 1, touch " + touch, 1, () -> lab.workingSet(asked));
        }
        CHECK.due("the average with a window of 1", 1.0f, lab::averageWorkingSet);
        Swapmere two = Touching.with(4, 2, 1, 2, 2, 3, 1);
        int[] sizes = {1, 2, 1, 2, 2};
        for (int touch = 0; touch < 5; touch++) {
            int asked = touch;
            CHECK.due("a window of 2, touch " + touch, sizes[touch], () -> two.workingSet(asked));
        }
    }

    private static void windowOf100() {
        // Page 63 at touch 0 and nothing but page 5 behind it.
        Swapmere lab = Touching.with(4, 100, 63);
        lab.touchRun(5, 0, 64);
        lab.touchRun(5, 0, 64);
        CHECK.due("touch 99 has touch 0 in its window", 2, () -> lab.workingSet(99));
        CHECK.due("touch 100 has it no more", 1, () -> lab.workingSet(100));
        Swapmere less = Touching.with(4, 99, 63);
        less.touchRun(5, 0, 64);
        less.touchRun(5, 0, 64);
        CHECK.due("a window of 99, touch 98", 2, () -> less.workingSet(98));
        CHECK.due("a window of 99, touch 99", 1, () -> less.workingSet(99));
        Swapmere all = Touching.with(4, 100);
        all.touchRun(0, 1, 64);
        all.touchRun(63, -1, 64);
        CHECK.due("all pages are in a window", 64, () -> all.workingSet(99));
    }

    // "(or by all there are, if they are fewer)"
    private static void workingSetWithFewerTouchesThanTheWindow() {
        Swapmere lab = Touching.with(4, 100);
        lab.touchRun(0, 1, 64);
        for (int touch = 0; touch < 64; touch++) {
            int asked = touch;
            CHECK.due("touch " + touch + " in a window of 100", touch + 1,
                () -> lab.workingSet(asked));
        }
        Swapmere eight = new Swapmere();
        eight.touchRun(0, 1, 64);
        for (int touch = 0; touch < 64; touch++) {
            int asked = touch;
            CHECK.due("touch " + touch + " in a window of 8", Math.min(8, touch + 1),
                () -> eight.workingSet(asked));
        }
    }

    // "the set of pages touched by it and by the w - 1 touches before it"
    private static void workingSetsOfEveryWindow() {
        for (int window = 1; window <= 100; window++) {
            int w = window;
            // Page 63 is touched once, at touch 3; all others are page 0.
            Swapmere lab = Touching.with(4, window, 0, 0, 0, 63);
            lab.touchRun(0, 0, 64);
            lab.touchRun(0, 0, 64);
            CHECK.due("the last touch with 63, window " + w, w > 1 ? 2 : 1,
                () -> lab.workingSet(3 + w - 1));
            CHECK.due("the first touch without 63, window " + w, 1, () -> lab.workingSet(3 + w));
        }
    }

    // "the sum of the sizes, as a float, divided by the number of touches, as a float"
    private static void averageOfOneAndOfAllTouches() {
        CHECK.due("one touch", 1.0f, () -> Touching.with(4, 8, 63).averageWorkingSet());
        CHECK.due("4 pages by 3 touches", 4.0f / 3.0f,
            () -> Touching.with(4, 8, 1, 1, 2).averageWorkingSet());
        Swapmere full = Touching.with(4, 100);
        for (int i = 0; i < 6; i++) {
            full.touchRun(0, 1, 64);
        }
        full.touchRun(0, 1, 16);
        // 1 to 64 for the first 64 touches, then always 64.
        float sum = 65 * 32 + 336 * 64;
        CHECK.due("400 touches", sum / 400.0f, full::averageWorkingSet);
    }

    // "Starts again without touches."
    private static void beginForgetsRefaultsAndWorkingSets() {
        Swapmere lab = Touching.with(1, 8, 1, 2, 1, 2, 3);
        lab.begin(1, 8);
        CHECK.due("a page held before begin", 15, () -> lab.touch(3));
        CHECK.due("a page evicted before begin", 15, () -> lab.touch(1));
        CHECK.due("no refault after begin", 0, () -> lab.refaults(400));
        CHECK.due("no distance from before begin", Check.NO_ELEMENT, () -> lab.refaultDistance(2));
        CHECK.due("a working set of one", 1, () -> lab.workingSet(0));
        CHECK.due("two working sets of 3 pages", 1.5f, lab::averageWorkingSet);
        CHECK.due("faults of sixteen frames after begin", 2, () -> lab.faultsWith(16));
        CHECK.due("the best faults after begin", 2, () -> lab.bestFaults(16));
    }

    private static void faultsWithOneAndSixteenFrames() {
        Swapmere lab = Touching.with(4, 8, 5, 5, 6, 5, 5, 6);
        CHECK.due("every other page than the one before is a fault of one frame", 4,
            () -> lab.faultsWith(1));
        CHECK.due("two frames", 2, () -> lab.faultsWith(2));
        CHECK.due("sixteen frames", 2, () -> lab.faultsWith(16));
        Swapmere sixteen = new Swapmere();
        sixteen.touchRun(0, 1, 16);
        sixteen.touchRun(0, 1, 16);
        CHECK.due("sixteen pages in turn, sixteen frames", 16, () -> sixteen.faultsWith(16));
        CHECK.due("sixteen pages in turn, fifteen frames", 32, () -> sixteen.faultsWith(15));
        Swapmere seventeen = new Swapmere();
        seventeen.touchRun(0, 1, 17);
        seventeen.touchRun(0, 1, 17);
        CHECK.due("seventeen pages in turn, sixteen frames", 34, () -> seventeen.faultsWith(16));
    }

    // "the faults that policy 0 would have had with another number of frames"
    private static void faultsWithAsManyFramesAsThereAre() {
        for (int frames = 1; frames <= 16; frames++) {
            Random random = new Random(frames);
            int[] pages = new int[100];
            for (int i = 0; i < pages.length; i++) {
                pages[i] = random.nextInt(2 * frames + 1);
            }
            Swapmere lab = Touching.with(frames, 8, pages);
            int m = frames;
            CHECK.due("faultsWith(" + m + ") is faults(0)", lab.faults(0), () -> lab.faultsWith(m));
            for (int other = 1; other <= 16; other++) {
                int asked = other;
                int faults = Touching.with(other, 8, pages).faults(0);
                CHECK.due("faultsWith(" + other + ") asked of " + m + " frames", faults,
                    () -> lab.faultsWith(asked));
            }
        }
    }

    private static void bestWithOneAndSixteenFrames() {
        Swapmere lab = Touching.with(4, 8, 5, 5, 6, 5, 5, 6);
        CHECK.due("the best of one frame", 4, () -> lab.bestFaults(1));
        CHECK.due("the best of two frames", 2, () -> lab.bestFaults(2));
        CHECK.due("the best of sixteen frames", 2, () -> lab.bestFaults(16));
        Swapmere turns = new Swapmere();
        turns.touchRun(0, 1, 16);
        turns.touchRun(0, 1, 16);
        CHECK.due("the best of sixteen frames for sixteen pages", 16, () -> turns.bestFaults(16));
        // Fifteen frames keep fourteen pages and give one frame to the others.
        CHECK.due("the best of fifteen frames for sixteen pages", 17, () -> turns.bestFaults(15));
        Swapmere more = new Swapmere();
        more.touchRun(0, 1, 17);
        more.touchRun(0, 1, 17);
        CHECK.due("the best of sixteen frames for seventeen pages", 18, () -> more.bestFaults(16));
    }

    // "a page without a next touch is farthest"
    private static void bestEvictsAPageWithoutANextTouch() {
        // At 3, page 1 comes next, and page 2 never again: 2 goes, and 1 and 3 stay.
        CHECK.due("2 goes", 3, () -> Touching.with(4, 8, 1, 2, 3, 1, 3, 1).bestFaults(2));
        // At 4, page 3 comes again only as the last touch, and page 2 never.
        CHECK.due("2 goes before 3", 4, () -> Touching.with(4, 8, 1, 2, 3, 4, 1, 3).bestFaults(3));
        CHECK.due("none comes again", 5, () -> Touching.with(4, 8, 1, 2, 3, 4, 5).bestFaults(2));
        // 400 touches: 1 comes again as touch 399 alone, 2 never again.
        Swapmere full = Touching.with(2, 8, 1, 2);
        for (int i = 0; i < 6; i++) {
            full.touchRun(3, 0, 64);
        }
        full.touchRun(3, 0, 13);
        full.touch(1);
        CHECK.due("400 touches", 400, full::touches);
        CHECK.due("1 stays up to touch 399", 3, () -> full.bestFaults(2));
    }

    // "at a fault that finds all frames in use evicts a page whose next touch is farthest away"
    private static void bestEvictsTheFarthestNextTouch() {
        // At 3, page 2 is nearer than page 1: 1 goes, and faults once more.
        CHECK.due("1 goes", 4, () -> Touching.with(4, 8, 1, 2, 3, 2, 3, 1).bestFaults(2));
        CHECK.due("2 goes", 4, () -> Touching.with(4, 8, 2, 1, 3, 1, 3, 2).bestFaults(2));
        // With an empty frame nothing goes.
        CHECK.due("nothing goes", 3, () -> Touching.with(4, 8, 1, 2, 3, 2, 3, 1).bestFaults(3));
    }

    // "goes through all touches so far"
    private static void bestKnowsOnlyTheTouchesSoFar() {
        Swapmere lab = new Swapmere();
        int[] pages = {1, 2, 3, 1, 2, 3};
        int[] best = {1, 2, 3, 3, 4, 4};
        for (int i = 0; i < pages.length; i++) {
            lab.touch(pages[i]);
            CHECK.due("best of two frames after touch " + i, best[i], () -> lab.bestFaults(2));
        }
    }

    // "both as floats"
    private static void ratioOfTheBest() {
        CHECK.due("one touch", 1.0f, () -> Touching.with(4, 8, 63).ratio(0));
        Swapmere lab = Touching.with(2, 8, 1, 2, 3, 1, 2, 3);
        CHECK.due("six faults by four", 1.5f, () -> lab.ratio(0));
        CHECK.due("policy 1", 1.5f, () -> lab.ratio(1));
        Swapmere thirds = Touching.with(2, 8, 1, 2, 9, 1);
        CHECK.due("four faults by three", 4.0f / 3.0f, () -> thirds.ratio(0));
        Swapmere strides = Touching.with(2, 8);
        strides.touchRun(0, 1, 64);
        CHECK.due("three faults by 64", 3.0f / 64.0f, () -> strides.ratio(3));
        CHECK.due("64 faults by 64", 1.0f, () -> strides.ratio(2));
    }
}
