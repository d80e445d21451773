import java.util.Arrays;
import java.util.Random;

/**
 * Promise 10: the victim is the page that goes if a page is touched that has never been touched
 * or prefetched, in many states of each number of frames.
 */
public final class VictimTest {
    private static final Check CHECK = new Check("VictimTest");
    private static final int NEW_PAGE = 63;

    public static void main(String[] args) {
        for (int frames = 1; frames <= 16; frames++) {
            Random random = new Random(frames);
            for (int run = 0; run < 60; run++) {
                int[] pages = new int[random.nextInt(5 * frames + 4)];
                for (int i = 0; i < pages.length; i++) {
                    pages[i] = random.nextInt(2 * frames + 3);
                }
                // Two equal pages make no step, so that nothing is prefetched behind the fault.
                if (pages.length > 1) {
                    pages[pages.length - 1] = pages[pages.length - 2];
                }
                for (int policy = 0; policy < 4; policy++) {
                    goesForANewPage(frames, pages, policy);
                }
            }
        }
        notTheVictimOfAPrefetch();
        CHECK.end();
    }

    private static void goesForANewPage(int frames, int[] pages, int policy) {
        String when = frames + " frames, policy " + policy + " after " + Arrays.toString(pages);
        Swapmere before = Touching.with(frames, 8, pages);
        Swapmere after = Touching.with(frames, 8, pages);
        after.touch(NEW_PAGE);
        String gone = Touching.pagesThat(page ->
            before.holds(policy, page) && !after.holds(policy, page));
        CHECK.due(when, gone.isEmpty() ? Check.NO_ELEMENT : gone, () -> before.victim(policy));
        CHECK.due(when + ": full or not", before.held(policy) == frames, () -> !gone.isEmpty());
    }

    // "for policy 3 not what a prefetch behind that fault would evict"
    private static void notTheVictimOfAPrefetch() {
        Swapmere two = Touching.with(3, 8, 10, 20);
        CHECK.due("an empty frame", Check.NO_ELEMENT, () -> two.victim(3));
        two.touch(30);
        CHECK.due("the fault evicted none, but the prefetch did", false, () -> two.holds(3, 10));
        Swapmere three = Touching.with(3, 8, 50, 10, 20);
        CHECK.due("no empty frame", 50, () -> three.victim(3));
        three.touch(30);
        CHECK.due("the fault evicted 50", false, () -> three.holds(3, 50));
        CHECK.due("the prefetch evicted 10", false, () -> three.holds(3, 10));
        Swapmere one = Touching.with(1, 8, 10, 20);
        CHECK.due("one frame, in which nothing is prefetched", 20, () -> one.victim(3));
    }
}
