/** Promises 1 to 6: a new object, begin, touch, touchRun, touches, pageOf. */
public final class TouchesTest {
    private static final Check CHECK = new Check("TouchesTest");

    public static void main(String[] args) {
        promise1NewObject();
        promise2Begin();
        promise2BeginForgets();
        promise3Touch();
        promise3TouchLimits();
        promise4TouchRun();
        promise4TouchRunWrongInputs();
        promise4TouchRunLimits();
        promise5Touches();
        promise6PageOf();
        CHECK.end();
    }

    private static void promise1NewObject() {
        Swapmere lab = new Swapmere();
        CHECK.due("1: touches() of a new object", 0, lab::touches);
        CHECK.due("1: a new object is as after begin(4, 8)", true,
            () -> Answers.of(Swapmere::new).equals(Answers.of(() -> Touching.with(4, 8))));
        Touching.touchAll(lab, 0, 10, 21, 33);
        CHECK.due("1: four frames hold four pages", 4, () -> lab.held(0));
        CHECK.due("1: four frames hold the first page still", true, () -> lab.holds(0, 0));
        Touching.touchAll(lab, 46, 60, 5, 7, 1);
        CHECK.due("1: four frames hold no fifth page", 4, () -> lab.held(0));
        CHECK.due("1: the window reaches eight touches", 8, () -> lab.workingSet(7));
        CHECK.due("1: the window reaches no ninth touch", 8, () -> lab.workingSet(8));
    }

    private static void promise2Begin() {
        Swapmere lab = Touching.with(1, 1, 3, 4);
        CHECK.due("2: one frame", 1, () -> lab.held(0));
        CHECK.due("2: a window of one", 1, () -> lab.workingSet(1));
        Swapmere large = Touching.with(16, 100);
        large.touchRun(0, 3, 20);
        for (int policy = 0; policy < 4; policy++) {
            int asked = policy;
            CHECK.due("2: sixteen frames of policy " + policy, 16, () -> large.held(asked));
        }
        for (int frames : Check.outside(1, 16)) {
            CHECK.dueOf("2: begin(" + frames + ", 1)", Check.ARGUMENT, () -> large.begin(frames, 1));
        }
        for (int window : Check.outside(1, 100)) {
            CHECK.dueOf("2: begin(1, " + window + ")", Check.ARGUMENT, () -> large.begin(1, window));
        }
        CHECK.dueOf("2: begin(0, 0)", Check.ARGUMENT, () -> large.begin(0, 0));
        large.touchRun(0, 1, 1);
        CHECK.due("2: a refused begin leaves the window", 20, () -> large.workingSet(20));
    }

    private static void promise2BeginForgets() {
        CHECK.due("2: begin forgets all", true, () -> Answers.of(TouchesTest::begunAgain)
            .equals(Answers.of(() -> Touching.with(2, 3))));
        int[] later = {50, 52, 1, 2, 1, 9, 32};
        CHECK.due("2: what was before begin has no part in what comes", true,
            () -> Answers.after(TouchesTest::begunAgain, lab -> Touching.touchAll(lab, later))
                .equals(Answers.of(() -> Touching.with(2, 3, later))));
        Swapmere strided = Touching.with(4, 8, 1, 2);
        strided.begin(4, 8);
        strided.touch(3);
        CHECK.due("2: steps do not go across begin", 0, strided::prefetches);
        strided.touch(4);
        CHECK.due("2: two touches after begin make no stride", 0, strided::prefetches);
        // 16 and 0 are prefetched, and not touched before begin.
        for (int[] pages : new int[][] {{10, 12, 14, 16}, {3, 2, 1, 0}}) {
            Swapmere awaiting = Touching.with(4, 8, pages[0], pages[1], pages[2]);
            awaiting.begin(4, 8);
            Touching.touchAll(awaiting, pages[3], pages[3]);
            CHECK.due("2: prefetches before begin are not useful behind it", 0,
                awaiting::usefulPrefetches);
        }
        // T1 3, T2 2, B2 1, target 1.
        Swapmere adapted = Touching.with(2, 8, 1, 2, 1, 3, 2);
        adapted.begin(2, 8);
        CHECK.due("2: begin sets the target to 0", 0, adapted::target);
        CHECK.due("2: begin empties T1", 0, () -> adapted.listOf(3));
        CHECK.due("2: begin empties T2", 0, () -> adapted.listOf(2));
        CHECK.due("2: begin empties B2", 0, () -> adapted.listOf(1));
        Swapmere full = Touching.with(4, 8);
        Touching.touchTimes(full, 7, 400);
        full.begin(4, 8);
        CHECK.due("2: begin makes room for touches again", 15, () -> full.touch(7));
    }

    private static Swapmere begunAgain() {
        Swapmere lab = Touching.with(3, 5, 1, 2, 3, 4, 5, 1, 2, 9, 1, 30, 32, 34, 2, 5, 30);
        lab.touchRun(10, 2, 20);
        lab.begin(2, 3);
        return lab;
    }

    private static void promise3Touch() {
        Swapmere lab = Touching.with(4, 8);
        int[] pages = {1, 2, 3, 4, 1, 5, 2};
        int[] faulting = {15, 15, 15, 7, 8, 7, 13};
        for (int i = 0; i < pages.length; i++) {
            int page = pages[i];
            CHECK.due("3: touch(" + page + ") as touch " + i, faulting[i], () -> lab.touch(page));
        }
        for (int policy = 0; policy < 4; policy++) {
            int asked = policy;
            CHECK.due("3: policy " + policy + " holds the touched page", true,
                () -> lab.holds(asked, 2));
        }
        CHECK.due("3: touch(0)", 15, () -> Touching.with(1, 1).touch(0));
        CHECK.due("3: touch(63)", 15, () -> Touching.with(1, 1).touch(63));
        for (int page : Check.outside(0, 63)) {
            CHECK.due("3: touch(" + page + ")", Check.ARGUMENT, () -> lab.touch(page));
        }
    }

    private static void promise3TouchLimits() {
        Swapmere lab = Touching.with(2, 4);
        Touching.touchTimes(lab, 9, 399);
        CHECK.due("3: the 400th touch", 15, () -> lab.touch(10));
        CHECK.due("3: the 401st touch", Check.STATE, () -> lab.touch(10));
        CHECK.due("3: the 401st touch of no page", Check.ARGUMENT, () -> lab.touch(64));
    }

    private static void promise4TouchRun() {
        Swapmere lab = Touching.with(3, 8, 1, 2, 3);
        CHECK.due("4: a run upwards over held pages and others", 2, () -> lab.touchRun(1, 1, 5));
        CHECK.due("4: a run downwards", 2, () -> lab.touchRun(5, -1, 5));
        CHECK.due("4: a run without steps", 1, () -> lab.touchRun(20, 0, 64));
        CHECK.due("4: the same run again", 0, () -> lab.touchRun(20, 0, 64));
        CHECK.due("4: a run touches one after the other", "[1, 2, 3, 4, 5, 5, 4, 3, 2, 1, 20]",
            () -> pagesOf(lab, 3, 14));
        CHECK.due("4: the largest step", 2, () -> Touching.with(3, 8).touchRun(0, 63, 2));
        CHECK.due("4: the least step", 2, () -> Touching.with(3, 8).touchRun(63, -63, 2));
        CHECK.due("4: all pages", 64, () -> Touching.with(3, 8).touchRun(0, 1, 64));
        CHECK.due("4: all pages downwards", 64, () -> Touching.with(3, 8).touchRun(63, -1, 64));
        CHECK.due("4: a run of one touch", 1, () -> Touching.with(3, 8).touchRun(63, 63, 1));
        CHECK.due("4: a run is as its single touches", true,
            () -> Answers.after(Swapmere::new, one -> one.touchRun(4, 3, 11)).equals(Answers.after(
                Swapmere::new,
                one -> Touching.touchAll(one, 4, 7, 10, 13, 16, 19, 22, 25, 28, 31, 34))));
    }

    private static String pagesOf(Swapmere lab, int from, int to) {
        StringBuilder pages = new StringBuilder("[");
        for (int touch = from; touch < to; touch++) {
            pages.append(touch > from ? ", " : "").append(lab.pageOf(touch));
        }
        return pages.append("]").toString();
    }

    private static void promise4TouchRunWrongInputs() {
        Swapmere lab = Touching.with(3, 8, 1, 2, 3);
        for (int first : Check.outside(0, 63)) {
            refused(lab, first, 0, 1);
            refused(lab, first, 1, 2);
            refused(lab, first, -1, 2);
        }
        for (int step : Check.outside(-63, 63)) {
            refused(lab, 0, step, 1);
        }
        for (int count : Check.outside(1, 64)) {
            refused(lab, 7, 0, count);
        }
        refused(lab, 1, 1, 64);
        refused(lab, 62, -1, 64);
        refused(lab, 60, 2, 3);
        refused(lab, 3, -2, 3);
        refused(lab, 1, 63, 64);
    }

    private static void refused(Swapmere lab, int first, int step, int count) {
        CHECK.due("4: touchRun(" + first + ", " + step + ", " + count + ")", Check.ARGUMENT,
            () -> lab.touchRun(first, step, count));
    }

    private static void promise4TouchRunLimits() {
        Swapmere lab = Touching.with(3, 8);
        for (int i = 0; i < 6; i++) {
            lab.touchRun(0, 1, 64);
        }
        CHECK.due("4: a run beyond 400 touches", Check.STATE, () -> lab.touchRun(0, 1, 17));
        CHECK.due("4: a wrong run beyond 400 touches", Check.ARGUMENT,
            () -> lab.touchRun(60, 1, 17));
        CHECK.due("4: a run up to 400 touches", 16, () -> lab.touchRun(0, 1, 16));
        CHECK.due("4: a run of one touch beyond 400", Check.STATE, () -> lab.touchRun(0, 1, 1));
        CHECK.due("4: a wrong step beyond 400", Check.ARGUMENT, () -> lab.touchRun(0, 64, 1));
    }

    private static void promise5Touches() {
        Swapmere lab = Touching.with(4, 8, 1, 1);
        CHECK.due("5: touches()", 2, lab::touches);
        lab.touchRun(0, 1, 64);
        CHECK.due("5: touches() after a run", 66, lab::touches);
        Touching.touchTimes(lab, 0, 334);
        CHECK.due("5: touches() at most", 400, lab::touches);
    }

    private static void promise6PageOf() {
        Swapmere lab = Touching.with(1, 1);
        CHECK.due("6: pageOf(0) without touches", Check.NO_ELEMENT, () -> lab.pageOf(0));
        Touching.touchAll(lab, 63, 0, 7, 7);
        int[] pages = {63, 0, 7, 7};
        for (int i = 0; i < pages.length; i++) {
            int touch = i;
            CHECK.due("6: pageOf(" + i + ")", pages[i], () -> lab.pageOf(touch));
        }
        for (int touch : Check.outside(0, 3)) {
            CHECK.due("6: pageOf(" + touch + ")", Check.NO_ELEMENT, () -> lab.pageOf(touch));
        }
        Touching.touchTimes(lab, 5, 396);
        CHECK.due("6: pageOf(399)", 5, () -> lab.pageOf(399));
        CHECK.due("6: pageOf(400)", Check.NO_ELEMENT, () -> lab.pageOf(400));
    }
}
