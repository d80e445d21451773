/** Promises 18 to 21: refaults and working sets. */
public final class RefaultsTest {
    private static final Check CHECK = new Check("RefaultsTest");

    public static void main(String[] args) {
        promise18Refaults();
        promise19RefaultDistance();
        promise20WorkingSet();
        promise21AverageWorkingSet();
        CHECK.end();
    }

    private static void promise18Refaults() {
        Swapmere lab = Touching.with(2, 8);
        refaults("without touches", lab, 0, 0, 0);
        Touching.touchAll(lab, 1, 2, 9);
        refaults("without refaults", lab, 0, 0, 0);
        lab.touch(1);
        refaults("with no eviction between", lab, 1, 1, 1);
        lab.touch(1);
        refaults("after a hit", lab, 1, 1, 1);
        // 1 was evicted first, then 2 for the refault of 1; then 9 for 5.
        Touching.touchAll(lab, 5, 2);
        refaults("with one eviction between", lab, 1, 2, 2);
        // 9 was evicted third; the refault of 2 evicted 1 behind it, and 20 and 21 two more.
        Touching.touchAll(lab, 20, 31, 9);
        refaults("with three evictions between", lab, 1, 2, 2);
        CHECK.due("18: refaults(3)", 3, () -> lab.refaults(3));
        CHECK.due("18: refaults(400)", 3, () -> lab.refaults(400));
        for (int distance : Check.outside(0, 400)) {
            CHECK.due("18: refaults(" + distance + ")", Check.ARGUMENT,
                () -> lab.refaults(distance));
        }
    }

    private static void refaults(String when, Swapmere lab, int... counts) {
        for (int i = 0; i < counts.length; i++) {
            int distance = i;
            CHECK.due("18: refaults(" + i + ") " + when, counts[i], () -> lab.refaults(distance));
        }
    }

    private static void promise19RefaultDistance() {
        Swapmere lab = Touching.with(2, 8);
        CHECK.due("19: a page never touched", Check.NO_ELEMENT, () -> lab.refaultDistance(1));
        Touching.touchAll(lab, 1, 2, 9);
        CHECK.due("19: a page evicted", Check.NO_ELEMENT, () -> lab.refaultDistance(1));
        CHECK.due("19: a page held", Check.NO_ELEMENT, () -> lab.refaultDistance(9));
        Touching.touchAll(lab, 1, 5, 2, 20, 31, 9);
        CHECK.due("19: no eviction between", 0, () -> lab.refaultDistance(1));
        CHECK.due("19: one eviction between", 1, () -> lab.refaultDistance(2));
        CHECK.due("19: three evictions between", 3, () -> lab.refaultDistance(9));
        // 1 was evicted for 2; behind it 5, 2, 20 went.
        lab.touch(1);
        CHECK.due("19: the latest refault", 3, () -> lab.refaultDistance(1));
        lab.touch(1);
        CHECK.due("19: a hit changes no distance", 3, () -> lab.refaultDistance(1));
        for (int page : Check.outside(0, 63)) {
            CHECK.due("19: refaultDistance(" + page + ")", Check.ARGUMENT,
                () -> lab.refaultDistance(page));
        }
        CHECK.due("19: refaultDistance(0)", Check.NO_ELEMENT, () -> lab.refaultDistance(0));
        CHECK.due("19: refaultDistance(63)", Check.NO_ELEMENT, () -> lab.refaultDistance(63));
        Swapmere far = Touching.with(1, 8, 63);
        far.touchRun(0, 1, 63);
        far.touch(63);
        CHECK.due("19: all other pages between", 62, () -> far.refaultDistance(63));
    }

    private static void promise20WorkingSet() {
        Swapmere lab = Touching.with(4, 3);
        CHECK.due("20: workingSet(0) without touches", Check.NO_ELEMENT, () -> lab.workingSet(0));
        Touching.touchAll(lab, 1, 2, 1, 1, 1, 3, 4, 5, 5);
        int[] sizes = {1, 2, 2, 2, 1, 2, 3, 3, 2};
        for (int i = 0; i < sizes.length; i++) {
            int touch = i;
            CHECK.due("20: workingSet(" + i + ")", sizes[i], () -> lab.workingSet(touch));
        }
        for (int touch : Check.outside(0, 8)) {
            CHECK.due("20: workingSet(" + touch + ")", Check.NO_ELEMENT,
                () -> lab.workingSet(touch));
        }
        Swapmere one = Touching.with(4, 1, 1, 2, 2);
        CHECK.due("20: a window of one", 1, () -> one.workingSet(1));
        Swapmere wide = Touching.with(4, 100);
        wide.touchRun(0, 1, 64);
        wide.touchRun(7, 0, 64);
        CHECK.due("20: all pages", 64, () -> wide.workingSet(63));
        // Touches 0 to 99 have page 0 still; touch 100 looks back at touches 1 to 100 alone.
        CHECK.due("20: a window of a hundred", 64, () -> wide.workingSet(99));
        CHECK.due("20: behind a window of a hundred", 63, () -> wide.workingSet(100));
        CHECK.due("20: the last touch", 37, () -> wide.workingSet(127));
    }

    private static void promise21AverageWorkingSet() {
        Swapmere lab = Touching.with(4, 3);
        CHECK.due("21: without touches", Check.NO_ELEMENT, lab::averageWorkingSet);
        lab.touch(1);
        CHECK.due("21: one touch", 1.0f, lab::averageWorkingSet);
        Touching.touchAll(lab, 2, 1);
        CHECK.due("21: 5 pages by 3 touches", 5.0f / 3.0f, lab::averageWorkingSet);
        Touching.touchAll(lab, 1, 1, 3, 4, 5, 5);
        CHECK.due("21: 18 pages by 9 touches", 2.0f, lab::averageWorkingSet);
        lab.begin(4, 1);
        CHECK.due("21: without touches again", Check.NO_ELEMENT, lab::averageWorkingSet);
    }
}
