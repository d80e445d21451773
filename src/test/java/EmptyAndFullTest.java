import java.util.function.Consumer;
import java.util.function.Supplier;

/**
 * All promises in the empty state, and in the full state: all 400 touches used, all 64 pages
 * touched, all frames and lists in use.
 */
public final class EmptyAndFullTest {
    private static final Check CHECK = new Check("EmptyAndFullTest");

    public static void main(String[] args) {
        empty("a new object", Swapmere::new, 4);
        empty("begun", () -> Touching.with(4, 8), 4);
        empty("begun with the least numbers", () -> Touching.with(1, 1), 1);
        empty("begun with the largest numbers", () -> Touching.with(16, 100), 16);
        empty("begun again in use", () -> begunAgain(State.IN_USE), 7);
        empty("begun again when full", () -> begunAgain(State.FULL), 7);
        fullOfAllPagesInTurn();
        fullOfOnePage();
        fullInAllLists();
        firstTouchOfANewObject();
        CHECK.end();
    }

    private static Swapmere begunAgain(State state) {
        Swapmere lab = state.maker.get();
        lab.begin(7, 20);
        return lab;
    }

    private static void empty(String when, Supplier<Swapmere> maker, int frames) {
        Swapmere lab = maker.get();
        CHECK.due("5: touches, " + when, 0, lab::touches);
        CHECK.due("6: pageOf(0), " + when, Check.NO_ELEMENT, () -> lab.pageOf(0));
        for (int policy = 0; policy < 4; policy++) {
            int asked = policy;
            CHECK.due("7: faults, " + when, 0, () -> lab.faults(asked));
            Swapmere other = maker.get();
            CHECK.due("8: holds, " + when, "",
                () -> Touching.pagesThat(page -> other.holds(asked, page)));
            CHECK.due("9: held, " + when, 0, () -> lab.held(asked));
            CHECK.due("10: victim, " + when, Check.NO_ELEMENT, () -> lab.victim(asked));
            CHECK.due("24: ratio, " + when, Check.NO_ELEMENT, () -> lab.ratio(asked));
        }
        CHECK.due("11: hand, " + when, 0, lab::hand);
        CHECK.due("12: isReferenced, " + when, "", () -> Touching.pagesThat(lab::isReferenced));
        CHECK.due("13: listOf, " + when, "",
            () -> Touching.pagesThat(page -> lab.listOf(page) != 0));
        for (int list = 1; list <= 4; list++) {
            int asked = list;
            CHECK.due("14: listSize, " + when, 0, () -> lab.listSize(asked));
        }
        CHECK.due("15: target, " + when, 0, lab::target);
        CHECK.due("16: prefetches, " + when, 0, lab::prefetches);
        CHECK.due("17: usefulPrefetches, " + when, 0, lab::usefulPrefetches);
        for (int distance : new int[] {0, 1, 399, 400}) {
            CHECK.due("18: refaults, " + when, 0, () -> lab.refaults(distance));
        }
        CHECK.due("19: refaultDistance, " + when, "", () -> Touching.pagesThat(page ->
            !Check.answerOf(() -> lab.refaultDistance(page)).equals(Check.NO_ELEMENT)));
        CHECK.due("20: workingSet(0), " + when, Check.NO_ELEMENT, () -> lab.workingSet(0));
        CHECK.due("21: averageWorkingSet, " + when, Check.NO_ELEMENT, lab::averageWorkingSet);
        for (int number = 1; number <= 16; number++) {
            int asked = number;
            CHECK.due("22: faultsWith, " + when, 0, () -> lab.faultsWith(asked));
            CHECK.due("23: bestFaults, " + when, 0, () -> lab.bestFaults(asked));
        }
        // The number of frames shows in how many pages can be held.
        lab.touchRun(0, 0, 1);
        lab.touchRun(63, -2, 20);
        CHECK.due("2: frames, " + when, frames, () -> lab.held(0));
    }

    private static void fullOfAllPagesInTurn() {
        Swapmere lab = allPagesInTurn();
        CHECK.due("5: touches", 400, lab::touches);
        CHECK.due("6: pageOf(0)", 0, () -> lab.pageOf(0));
        CHECK.due("6: pageOf(63)", 63, () -> lab.pageOf(63));
        CHECK.due("6: pageOf(64)", 0, () -> lab.pageOf(64));
        CHECK.due("6: pageOf(399)", 15, () -> lab.pageOf(399));
        CHECK.due("6: pageOf(400)", Check.NO_ELEMENT, () -> lab.pageOf(400));
        // Policy 3 misses the first three pages of each turn, and prefetches the others.
        int[] faults = {400, 400, 400, 21};
        String[] held = {"12 13 14 15", "12 13 14 15", "12 13 14 15", "13 14 15 16"};
        int[] victims = {12, 12, 12, 13};
        for (int policy = 0; policy < 4; policy++) {
            int asked = policy;
            CHECK.due("7: faults(" + policy + ")", faults[policy], () -> lab.faults(asked));
            CHECK.due("8: holds(" + policy + ", _)", held[policy],
                () -> Touching.pagesThat(page -> allPagesInTurn().holds(asked, page)));
            CHECK.due("9: held(" + policy + ")", 4, () -> lab.held(asked));
            CHECK.due("10: victim(" + policy + ")", victims[policy], () -> lab.victim(asked));
        }
        // 396 evictions are 99 rounds of the hand, each of which sets all bits.
        CHECK.due("11: hand", 0, lab::hand);
        CHECK.due("12: isReferenced", "12 13 14 15", () -> Touching.pagesThat(lab::isReferenced));
        CHECK.due("13: listOf", "12 13 14 15",
            () -> Touching.pagesThat(page -> lab.listOf(page) == 1));
        CHECK.due("14: listSize(1)", 4, () -> lab.listSize(1));
        CHECK.due("14: listSize(2)", 0, () -> lab.listSize(2));
        CHECK.due("15: target", 0, lab::target);
        // 61 prefetches in each of six turns, all of them useful, and 14 in the last one.
        CHECK.due("16: prefetches", 380, lab::prefetches);
        CHECK.due("17: usefulPrefetches", 379, lab::usefulPrefetches);
        // A page goes four touches after its own, and comes back 60 touches behind that.
        CHECK.due("18: refaults(58)", 0, () -> lab.refaults(58));
        CHECK.due("18: refaults(59)", 336, () -> lab.refaults(59));
        CHECK.due("18: refaults(400)", 336, () -> lab.refaults(400));
        CHECK.due("19: refaultDistance(0)", 59, () -> lab.refaultDistance(0));
        CHECK.due("19: refaultDistance(63)", 59, () -> lab.refaultDistance(63));
        CHECK.due("20: workingSet(6)", 7, () -> lab.workingSet(6));
        CHECK.due("20: workingSet(399)", 8, () -> lab.workingSet(399));
        // 1 to 7 for the first seven touches, 8 for the other 393.
        float sum = 28.0f + 393.0f * 8.0f;
        CHECK.due("21: averageWorkingSet", sum / 400.0f, lab::averageWorkingSet);
        CHECK.due("22: faultsWith(1)", 400, () -> lab.faultsWith(1));
        CHECK.due("22: faultsWith(16)", 400, () -> lab.faultsWith(16));
        CHECK.due("23: bestFaults(1)", 400, () -> lab.bestFaults(1));
        CHECK.due("24: ratio(0)", 400.0f / lab.bestFaults(4), () -> lab.ratio(0));
        CHECK.due("24: ratio(3)", 21.0f / lab.bestFaults(4), () -> lab.ratio(3));
        refusesTouches("all pages in turn", EmptyAndFullTest::allPagesInTurn);
    }

    private static Swapmere allPagesInTurn() {
        Swapmere lab = new Swapmere();
        for (int i = 0; i < 6; i++) {
            lab.touchRun(0, 1, 64);
        }
        lab.touchRun(0, 1, 16);
        return lab;
    }

    private static void fullOfOnePage() {
        Swapmere lab = onePage();
        CHECK.due("5: touches of one page", 400, lab::touches);
        for (int policy = 0; policy < 4; policy++) {
            int asked = policy;
            CHECK.due("7: one page faults once", 1, () -> lab.faults(asked));
            CHECK.due("9: one page is held", 1, () -> lab.held(asked));
            CHECK.due("10: three frames are empty", Check.NO_ELEMENT, () -> lab.victim(asked));
            CHECK.due("24: one fault by one", 1.0f, () -> lab.ratio(asked));
        }
        CHECK.due("14: one page in T2", 1, () -> lab.listSize(2));
        CHECK.due("16: no steps", 0, lab::prefetches);
        CHECK.due("18: no refaults", 0, () -> lab.refaults(400));
        CHECK.due("20: one page in all working sets", 1, () -> lab.workingSet(399));
        CHECK.due("21: and on the average", 1.0f, lab::averageWorkingSet);
        for (int frames = 1; frames <= 16; frames++) {
            int asked = frames;
            CHECK.due("22: one fault with " + frames, 1, () -> lab.faultsWith(asked));
            CHECK.due("23: one fault at best with " + frames, 1, () -> lab.bestFaults(asked));
        }
        refusesTouches("one page", EmptyAndFullTest::onePage);
    }

    private static Swapmere onePage() {
        Swapmere lab = new Swapmere();
        for (int i = 0; i < 8; i++) {
            lab.touchRun(63, 0, 50);
        }
        return lab;
    }

    private static void fullInAllLists() {
        Swapmere lab = State.FULL.maker.get();
        int all = 0;
        for (int list = 1; list <= 4; list++) {
            int size = lab.listSize(list);
            int asked = list;
            CHECK.due("14: list " + list + " has " + size + " pages", size,
                () -> Touching.pagesThat(page -> lab.listOf(page) == asked).split(" ").length);
            all += size;
        }
        int pages = all;
        CHECK.due("14: all four lists have 2 * m pages", 8, () -> pages);
        for (int policy = 0; policy < 4; policy++) {
            int asked = policy;
            int page = lab.victim(policy);
            CHECK.due("10: victim(" + policy + ") is held", true, () -> lab.holds(asked, page));
        }
        refusesTouches("all lists", State.FULL.maker);
    }

    private static void refusesTouches(String when, Supplier<Swapmere> full) {
        refuses("3: touch of a page held, " + when, full, lab -> lab.touch(lab.pageOf(399)));
        refuses("3: touch of another page, " + when, full, lab -> lab.touch(37));
        refuses("4: touchRun, " + when, full, lab -> lab.touchRun(lab.pageOf(399), 0, 1));
        refuses("4: touchRun of all pages, " + when, full, lab -> lab.touchRun(63, -1, 64));
    }

    private static void refuses(String what, Supplier<Swapmere> full, Consumer<Swapmere> call) {
        CHECK.dueOf(what, Check.STATE, () -> call.accept(full.get()));
        String before = Answers.of(full);
        CHECK.due(what + " changes nothing", true,
            () -> Answers.after(full, call).equals(before));
    }

    // "Creates a laboratory with 4 frames and a window of 8, without touches."
    private static void firstTouchOfANewObject() {
        Swapmere lab = new Swapmere();
        CHECK.due("1: no touches", 0, lab::touches);
        lab.touchRun(0, 0, 1);
        lab.touchRun(10, 5, 3);
        CHECK.due("1: four pages are held", 4, () -> lab.held(0));
        CHECK.due("1: the first page is the next to go", 0, () -> lab.victim(0));
        lab.touchRun(30, 1, 4);
        CHECK.due("1: no more than four pages are held", 4, () -> lab.held(0));
        CHECK.due("1: eight touches are in the window", 8, () -> lab.workingSet(7));
        lab.touch(40);
        CHECK.due("1: no more than eight are", 8, () -> lab.workingSet(8));
    }
}
