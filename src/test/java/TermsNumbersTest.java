import java.util.Random;

/** The sentences of the document's terms that bound pages, frames and touches. */
public final class TermsNumbersTest {
    private static final Check CHECK = new Check("TermsNumbersTest");

    public static void main(String[] args) {
        pages0To63();
        frames1To16();
        touchesFrom0To399();
        atMost400Touches();
        atMost400TouchesInRuns();
        atMost400TouchesAfterEachBegin();
        policiesHoldAtMostMPages();
        faultsArePagesNotHeld();
        handAndTargetStayInTheirRanges();
        all512Calls();
        CHECK.end();
    }

    // "Pages are numbered 0 to 63."
    private static void pages0To63() {
        for (int page : new int[] {0, 1, 62, 63}) {
            Swapmere lab = new Swapmere();
            CHECK.due("page " + page + " is touched", 15, () -> lab.touch(page));
            CHECK.due("page " + page + " is remembered", page, () -> lab.pageOf(0));
            for (int policy = 0; policy < 4; policy++) {
                int asked = policy;
                CHECK.due("page " + page + " is held by " + policy, true,
                    () -> lab.holds(asked, page));
                CHECK.due("no other page is held by " + policy, 1, () -> lab.held(asked));
            }
        }
        for (int page : Check.outside(0, 63)) {
            CHECK.due("page " + page, Check.ARGUMENT, () -> new Swapmere().touch(page));
        }
        Swapmere lab = Touching.with(16, 100);
        CHECK.due("all pages, upwards", 64, () -> lab.touchRun(0, 1, 64));
        CHECK.due("all pages, downwards, sixteen of them held", 48, () -> lab.touchRun(63, -1, 64));
        CHECK.due("page 0 came last", 0, () -> lab.pageOf(127));
        CHECK.due("page 63 came in the middle", 63, () -> lab.pageOf(64));
    }

    // "There are m frames, 1 to 16."
    private static void frames1To16() {
        for (int frames = 1; frames <= 16; frames++) {
            // Steps of 1 and 2 in turn, so that nothing is prefetched.
            Swapmere lab = Touching.with(frames, 8);
            for (int i = 0; i < frames; i++) {
                lab.touch(i + i / 2);
            }
            int all = frames;
            for (int policy = 0; policy < 4; policy++) {
                int asked = policy;
                CHECK.due(frames + " frames hold so many pages, policy " + policy, all,
                    () -> lab.held(asked));
            }
            lab.touch(60);
            for (int policy = 0; policy < 4; policy++) {
                int asked = policy;
                CHECK.due(frames + " frames hold no more pages, policy " + policy, all,
                    () -> lab.held(asked));
                CHECK.due(frames + " frames: the first page goes, policy " + policy, false,
                    () -> lab.holds(asked, 0));
            }
        }
        for (int frames : Check.outside(1, 16)) {
            CHECK.dueOf(frames + " frames", Check.ARGUMENT, () -> new Swapmere().begin(frames, 8));
        }
    }

    // "Touches are numbered from 0 in the order in which they come".
    private static void touchesFrom0To399() {
        Swapmere lab = Touching.with(4, 8, 5, 63, 0);
        CHECK.due("touch 0", 5, () -> lab.pageOf(0));
        CHECK.due("touch 1", 63, () -> lab.pageOf(1));
        CHECK.due("touch 2", 0, () -> lab.pageOf(2));
        CHECK.due("touch 3", Check.NO_ELEMENT, () -> lab.pageOf(3));
        CHECK.due("touch -1", Check.NO_ELEMENT, () -> lab.pageOf(-1));
        Swapmere full = State.FULL.maker.get();
        CHECK.due("touch 0 of 400", 6, () -> full.pageOf(0));
        CHECK.due("touch 12 of 400", 0, () -> full.pageOf(12));
        CHECK.due("touch 395 of 400", 63, () -> full.pageOf(395));
        CHECK.due("touch 399 of 400", 62, () -> full.pageOf(399));
        CHECK.due("touch 400 of 400", Check.NO_ELEMENT, () -> full.pageOf(400));
    }

    // "there are at most 400"
    private static void atMost400Touches() {
        Swapmere lab = new Swapmere();
        for (int i = 0; i < 400; i++) {
            int page = i % 64;
            CHECK.due("touch " + i, i % 64 < 3 ? 15 : 7, () -> lab.touch(page));
        }
        CHECK.due("400 touches", 400, lab::touches);
        CHECK.due("the 401st touch, of a page held", Check.STATE, () -> lab.touch(15));
        CHECK.due("the 401st touch, of a page not held", Check.STATE, () -> lab.touch(40));
        CHECK.due("still 400 touches", 400, lab::touches);
        CHECK.due("still 400 faults", 400, () -> lab.faults(0));
    }

    private static void atMost400TouchesInRuns() {
        Swapmere exact = new Swapmere();
        for (int i = 0; i < 8; i++) {
            CHECK.due("run " + i + " of fifty", 50, () -> exact.touchRun(1, 1, 50));
        }
        CHECK.due("400 touches by runs", 400, exact::touches);
        CHECK.due("a run of one behind 400", Check.STATE, () -> exact.touchRun(1, 1, 1));
        for (int count = 1; count <= 64; count++) {
            int room = count;
            Swapmere lab = new Swapmere();
            while (lab.touches() + 64 <= 400 - room) {
                lab.touchRun(9, 0, 64);
            }
            for (int left = 400 - room - lab.touches(); left > 0; left--) {
                lab.touch(9);
            }
            if (room < 64) {
                CHECK.due("one touch more than the room for " + room, Check.STATE,
                    () -> lab.touchRun(9, 0, room + 1));
            }
            CHECK.due("as many touches as there is room for, " + room, 0,
                () -> lab.touchRun(9, 0, room));
            CHECK.due("400 touches after the last run", 400, lab::touches);
        }
    }

    private static void atMost400TouchesAfterEachBegin() {
        Swapmere lab = State.FULL.maker.get();
        for (int round = 0; round < 3; round++) {
            lab.begin(16, 100);
            CHECK.due("no touches after begin", 0, lab::touches);
            for (int i = 0; i < 6; i++) {
                lab.touchRun(63, -1, 64);
            }
            lab.touchRun(0, 1, 15);
            CHECK.due("the 400th touch after begin", 15, () -> lab.touch(32));
            CHECK.due("the 401st touch after begin", Check.STATE, () -> lab.touch(0));
        }
    }

    // "Each policy holds at most m pages", "Returns 0 to m."
    private static void policiesHoldAtMostMPages() {
        for (int frames = 1; frames <= 16; frames++) {
            Random random = new Random(frames);
            Swapmere lab = Touching.with(frames, 8);
            int most = frames;
            for (int i = 0; i < 50; i++) {
                lab.touchRun(random.nextInt(30), random.nextInt(3), 1 + random.nextInt(6));
                for (int policy = 0; policy < 4; policy++) {
                    int held = lab.held(policy);
                    CHECK.due("frames " + frames + ", run " + i + ": policy " + policy + " holds "
                        + held, true, () -> held >= 1 && held <= most);
                }
            }
            for (int policy = 0; policy < 4; policy++) {
                int held = lab.held(policy);
                int asked = policy;
                CHECK.due("frames " + frames + ": pages that policy " + policy + " holds", held,
                    () -> pagesHeld(lab, asked));
            }
        }
    }

    private static int pagesHeld(Swapmere lab, int policy) {
        int held = 0;
        for (int page = 0; page < 64; page++) {
            held += lab.holds(policy, page) ? 1 : 0;
        }
        return held;
    }

    // "a touch of a page that a policy does not hold is a fault of that policy, and after the
    // touch the policy holds the page", "the sum of 2 to the power of the number of each"
    private static void faultsArePagesNotHeld() {
        for (int frames = 1; frames <= 16; frames++) {
            Random random = new Random(frames);
            Swapmere lab = Touching.with(frames, 8);
            for (int i = 0; i < 40; i++) {
                int page = random.nextInt(frames + 3);
                int due = 0;
                for (int policy = 0; policy < 4; policy++) {
                    due += lab.holds(policy, page) ? 0 : 1 << policy;
                }
                CHECK.due("frames " + frames + ", touch " + i, due, () -> lab.touch(page));
                for (int policy = 0; policy < 4; policy++) {
                    int asked = policy;
                    CHECK.due("frames " + frames + ", after touch " + i, true,
                        () -> lab.holds(asked, page));
                }
            }
        }
    }

    // "Returns 0 to m - 1." of hand, "Returns 0 to m." of target
    private static void handAndTargetStayInTheirRanges() {
        for (int frames = 1; frames <= 16; frames++) {
            Random random = new Random(frames);
            Swapmere lab = Touching.with(frames, 8);
            int m = frames;
            int furthest = 0;
            for (int i = 0; i < 160; i++) {
                lab.touch(random.nextInt(2 * frames + 2));
                int hand = lab.hand();
                int target = lab.target();
                CHECK.due("frames " + frames + ", touch " + i + ": hand " + hand, true,
                    () -> hand >= 0 && hand < m);
                CHECK.due("frames " + frames + ", touch " + i + ": target " + target, true,
                    () -> target >= 0 && target <= m);
                furthest = Math.max(furthest, hand);
            }
            int reached = furthest;
            CHECK.due("frames " + frames + ": the hand comes to the last frame", m - 1,
                () -> reached);
        }
    }

    // "An object is used for at most 512 calls after it has been made"
    private static void all512Calls() {
        Swapmere lab = new Swapmere();
        for (int i = 0; i < 400; i++) {
            lab.touch(i % 5);
        }
        for (int i = 0; i < 111; i++) {
            CHECK.due("call " + (400 + i), Check.STATE, () -> lab.touch(4));
        }
        CHECK.due("the last call", 400, () -> lab.faults(0));
        Swapmere begun = new Swapmere();
        for (int i = 0; i < 510; i++) {
            begun.begin(1 + i % 16, 1 + i % 100);
        }
        CHECK.due("the last but one call", 15, () -> begun.touch(63));
        CHECK.due("the last call after many begins", 1, begun::touches);
    }
}
