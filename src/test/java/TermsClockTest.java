import java.util.Arrays;

/** The sentences of the document's terms about policy 1, the clock. */
public final class TermsClockTest {
    private static final Check CHECK = new Check("TermsClockTest");

    public static void main(String[] args) {
        framesAreNumbered0ToMLess1();
        handAtFrame0AtFirst();
        emptyFrameWithTheLowestNumber();
        touchOfAHeldPageSetsItsBit();
        bitNotSetAtTheHand();
        allBitsSet();
        handFromTheLastFrameToFrame0WhileClearing();
        handFromTheLastFrameToFrame0BehindAnEviction();
        oneFrame();
        sixteenFrames();
        victimIsAskedWithoutMovingTheHand();
        bitOfAPageNotHeld();
        CHECK.end();
    }

    // "The frames are numbered 0 to m - 1; each is empty, or has a page and a reference bit."
    private static void framesAreNumbered0ToMLess1() {
        for (int frames = 1; frames <= 16; frames++) {
            Swapmere lab = Touching.with(frames, 8);
            for (int used = 1; used <= frames; used++) {
                int due = used;
                lab.touch(used);
                CHECK.due(used + " of " + frames + " frames have a page", due, () -> lab.held(1));
                CHECK.due(used + " of " + frames + " frames have a bit", true,
                    () -> lab.isReferenced(due));
            }
            // Each fault puts a page into one frame more, past which the hand goes.
            for (int fault = 1; fault <= 2 * frames; fault++) {
                lab.touch(frames + fault);
                CHECK.due("the hand of " + frames + " frames behind eviction " + fault,
                    fault % frames, lab::hand);
            }
        }
    }

    // "The hand is at frame 0 at first."
    private static void handAtFrame0AtFirst() {
        for (int frames = 1; frames <= 16; frames++) {
            Swapmere lab = Touching.with(frames, 8);
            CHECK.due("hand at first, frames " + frames, 0, lab::hand);
        }
        Swapmere again = Touching.with(3, 8, 1, 2, 5, 9);
        CHECK.due("hand before begin", 1, again::hand);
        again.begin(3, 8);
        CHECK.due("hand after begin", 0, again::hand);
    }

    // "At a fault with an empty frame, the page is put into the empty frame with the lowest
    // number, its bit is set, and the hand stays."
    private static void emptyFrameWithTheLowestNumber() {
        after(3, 50).has(0, "50", "50").wouldEvict(Check.NO_ELEMENT);
        after(3, 50, 20).has(0, "20 50", "20 50").wouldEvict(Check.NO_ELEMENT);
        after(3, 50, 20, 40).has(0, "20 40 50", "20 40 50").wouldEvict(50);
        // The pages go in the order of their frames: 50 was in frame 0, 20 in 1, and 40 in 2.
        after(3, 50, 20, 40, 1).has(1, "1 20 40", "1");
        after(3, 50, 20, 40, 1, 4).has(2, "1 4 40", "1 4");
        after(3, 50, 20, 40, 1, 4, 9).has(0, "1 4 9", "1 4 9");
    }

    // "A touch of a page that is held sets its bit."
    private static void touchOfAHeldPageSetsItsBit() {
        after(3, 1, 2, 5, 9).has(1, "2 5 9", "9");
        after(3, 1, 2, 5, 9, 5).has(1, "2 5 9", "5 9");
        after(3, 1, 2, 5, 9, 5, 5).has(1, "2 5 9", "5 9");
        // The hand stays even if the bit of its own frame is set.
        after(3, 1, 2, 5, 9, 5, 2).has(1, "2 5 9", "2 5 9");
    }

    private static void bitNotSetAtTheHand() {
        // Frames 9, 2, 5 with the bit of 9 alone, and the hand at 2, which goes at once.
        after(3, 1, 2, 5, 9).wouldEvict(2);
        after(3, 1, 2, 5, 9, 10).has(2, "5 9 10", "9 10");
    }

    // "as long as the bit of the frame at the hand is set, it is cleared, and the hand goes on"
    private static void allBitsSet() {
        // A whole turn from frame 0, from frame 1 (frames 9, 2, 5) and from frame 2 (9, 10, 5).
        after(3, 1, 2, 5).has(0, "1 2 5", "1 2 5").wouldEvict(1);
        after(3, 1, 2, 5, 9).has(1, "2 5 9", "9");
        after(3, 1, 2, 5, 9, 5, 2).has(1, "2 5 9", "2 5 9").wouldEvict(2);
        after(3, 1, 2, 5, 9, 5, 2, 10).has(2, "5 9 10", "10");
        after(3, 1, 2, 5, 9, 5, 2, 10, 9, 5).has(2, "5 9 10", "5 9 10").wouldEvict(5);
        after(3, 1, 2, 5, 9, 5, 2, 10, 9, 5, 11).has(0, "9 10 11", "11");
    }

    // "to the next frame, from frame m - 1 to frame 0"
    private static void handFromTheLastFrameToFrame0WhileClearing() {
        // Frames 9, 20, 12: the hand went past 9, and took the bit from it.
        after(3, 1, 2, 5, 9, 5, 10, 12, 9, 20).has(2, "9 12 20", "12 20").wouldEvict(9);
        // Frames 30, 20, 12: past frame 2 the hand came to frame 0, where no bit was.
        after(3, 1, 2, 5, 9, 5, 10, 12, 9, 20, 30).has(1, "12 20 30", "20 30").wouldEvict(12);
        after(3, 1, 2, 5, 9, 5, 10, 12, 9, 20, 30, 12)
            .has(1, "12 20 30", "12 20 30").wouldEvict(20);
        // Frames 30, 40, 12: past frames 1, 2 and 0 the hand came back to frame 1.
        after(3, 1, 2, 5, 9, 5, 10, 12, 9, 20, 30, 12, 40).has(2, "12 30 40", "40");
    }

    // "and the hand goes on by one frame"
    private static void handFromTheLastFrameToFrame0BehindAnEviction() {
        for (int frames = 2; frames <= 16; frames++) {
            Swapmere lab = Touching.with(frames, 8);
            lab.touchRun(0, 1, 2 * frames - 1);
            int last = frames - 1;
            CHECK.due("hand before the last frame is filled anew, frames " + frames, last,
                lab::hand);
            lab.touch(2 * frames - 1);
            CHECK.due("hand behind the last frame, frames " + frames, 0, lab::hand);
        }
    }

    private static void oneFrame() {
        after(1, 7).has(0, "7", "7").wouldEvict(7);
        after(1, 7, 7).has(0, "7", "7").wouldEvict(7);
        after(1, 7, 7, 8).has(0, "8", "8").wouldEvict(8);
        after(1, 7, 7, 8, 7).has(0, "7", "7").wouldEvict(7);
    }

    private static void sixteenFrames() {
        Swapmere lab = Touching.with(16, 8);
        lab.touchRun(0, 1, 15);
        CHECK.due("no victim with fifteen pages", Check.NO_ELEMENT, () -> lab.victim(1));
        lab.touch(40);
        CHECK.due("hand with sixteen pages", 0, lab::hand);
        CHECK.due("the victim with sixteen pages", 0, () -> lab.victim(1));
        lab.touchRun(41, 1, 15);
        CHECK.due("hand at frame 15", 15, lab::hand);
        CHECK.due("the page of frame 15 is left", 40, () -> lab.victim(1));
        lab.touch(40);
        CHECK.due("all bits set, the hand at frame 15", 40, () -> lab.victim(1));
        lab.touch(63);
        new Clock("a whole turn of sixteen frames", lab)
            .has(0, "41 42 43 44 45 46 47 48 49 50 51 52 53 54 55 63", "63");
    }

    private static void victimIsAskedWithoutMovingTheHand() {
        Swapmere lab = Touching.with(3, 8, 1, 2, 5, 9, 2);
        for (int i = 0; i < 3; i++) {
            CHECK.due("victim past a set bit", 5, () -> lab.victim(1));
            CHECK.due("the hand stays", 1, lab::hand);
            CHECK.due("the bit stays", true, () -> lab.isReferenced(2));
        }
    }

    // "false also if the page is not held"
    private static void bitOfAPageNotHeld() {
        Swapmere lab = Touching.with(3, 8, 1, 2, 5);
        CHECK.due("a page never touched", false, () -> lab.isReferenced(63));
        CHECK.due("a page held", true, () -> lab.isReferenced(1));
        lab.touch(9);
        CHECK.due("a page evicted with its bit set before", false, () -> lab.isReferenced(1));
        CHECK.due("no page in a new object", false, () -> new Swapmere().isReferenced(0));
    }

    private static Clock after(int frames, int... pages) {
        return new Clock(frames + " frames after " + Arrays.toString(pages),
            Touching.with(frames, 8, pages));
    }

    private static final class Clock {
        private final String when;
        private final Swapmere lab;

        Clock(String when, Swapmere lab) {
            this.when = when;
            this.lab = lab;
        }

        Clock has(int hand, String pages, String referenced) {
            CHECK.due(when + ": hand", hand, lab::hand);
            CHECK.due(when + ": pages held", pages,
                () -> Touching.pagesThat(page -> lab.holds(1, page)));
            CHECK.due(when + ": bits set", referenced,
                () -> Touching.pagesThat(lab::isReferenced));
            return this;
        }

        void wouldEvict(Object page) {
            CHECK.due(when + ": victim", page, () -> lab.victim(1));
        }
    }
}
