import java.util.HashMap;
import java.util.Map;
import java.util.Random;

/** Promises 22 to 24: the curve of faults, the best replacement, and ratios. */
public final class HindsightTest {
    private static final Check CHECK = new Check("HindsightTest");

    public static void main(String[] args) {
        promise22FaultsWith();
        promise23BestFaults();
        promise23BestFaultsAreTheFewest();
        promise24Ratio();
        CHECK.end();
    }

    private static void promise22FaultsWith() {
        CHECK.due("22: without touches", 0, () -> new Swapmere().faultsWith(16));
        Swapmere lab = Touching.with(4, 8, 1, 2, 3, 4, 1, 5, 2, 6, 2, 1);
        int[] faults = {10, 9, 9, 7, 6, 6, 6, 6, 6, 6, 6, 6, 6, 6, 6, 6};
        for (int i = 0; i < faults.length; i++) {
            int frames = i + 1;
            CHECK.due("22: faultsWith(" + frames + ")", faults[i], () -> lab.faultsWith(frames));
            Swapmere other = Touching.with(frames, 8, 1, 2, 3, 4, 1, 5, 2, 6, 2, 1);
            CHECK.due("22: faults(0) with " + frames + " frames", faults[i], () -> other.faults(0));
        }
        Swapmere same = Touching.with(4, 8, 7, 7, 7);
        CHECK.due("22: one page", 1, () -> same.faultsWith(1));
        Swapmere sixteen = Touching.with(4, 8);
        sixteen.touchRun(0, 1, 16);
        sixteen.touchRun(0, 1, 16);
        CHECK.due("22: sixteen pages in turn, 16 frames", 16, () -> sixteen.faultsWith(16));
        CHECK.due("22: sixteen pages in turn, 15 frames", 32, () -> sixteen.faultsWith(15));
        for (int frames : Check.outside(1, 16)) {
            CHECK.due("22: faultsWith(" + frames + ")", Check.ARGUMENT,
                () -> lab.faultsWith(frames));
        }
    }

    private static void promise23BestFaults() {
        CHECK.due("23: without touches", 0, () -> new Swapmere().bestFaults(1));
        Swapmere lab = Touching.with(3, 8);
        for (int i = 0; i < 3; i++) {
            lab.touchRun(0, 1, 4);
        }
        int[] faults = {12, 9, 6, 4, 4, 4, 4, 4, 4, 4, 4, 4, 4, 4, 4, 4};
        for (int i = 0; i < faults.length; i++) {
            int frames = i + 1;
            CHECK.due("23: bestFaults(" + frames + ")", faults[i], () -> lab.bestFaults(frames));
        }
        CHECK.due("23: asked again", 6, () -> lab.bestFaults(3));
        lab.touch(60);
        CHECK.due("23: another touch", 7, () -> lab.bestFaults(3));
        for (int frames : Check.outside(1, 16)) {
            CHECK.due("23: bestFaults(" + frames + ")", Check.ARGUMENT,
                () -> lab.bestFaults(frames));
        }
    }

    // "Its faults are the fewest that any replacement can have."
    private static void promise23BestFaultsAreTheFewest() {
        Random random = new Random(23);
        for (int run = 0; run < 60; run++) {
            int[] pages = new int[1 + random.nextInt(30)];
            int kinds = 2 + random.nextInt(6);
            for (int i = 0; i < pages.length; i++) {
                pages[i] = random.nextInt(kinds);
            }
            Swapmere lab = Touching.with(4, 8, pages);
            for (int frames = 1; frames <= 5; frames++) {
                int asked = frames;
                CHECK.due("23: run " + run + ", bestFaults(" + frames + ")",
                    fewestOfAll(pages, frames), () -> lab.bestFaults(asked));
            }
        }
    }

    /** Tries every choice of an evicted page; a set of held pages is a number, a bit a page. */
    private static int fewestOfAll(int[] pages, int frames) {
        Map<Integer, Integer> costs = new HashMap<>();
        costs.put(0, 0);
        for (int page : pages) {
            Map<Integer, Integer> after = new HashMap<>();
            for (Map.Entry<Integer, Integer> entry : costs.entrySet()) {
                int held = entry.getKey();
                if ((held & 1 << page) != 0) {
                    after.merge(held, entry.getValue(), Math::min);
                } else if (Integer.bitCount(held) < frames) {
                    after.merge(held | 1 << page, entry.getValue() + 1, Math::min);
                } else {
                    for (int evicted = 0; evicted < 32; evicted++) {
                        if ((held & 1 << evicted) != 0) {
                            after.merge(held & ~(1 << evicted) | 1 << page,
                                entry.getValue() + 1, Math::min);
                        }
                    }
                }
            }
            costs = after;
        }
        return costs.values().stream().min(Integer::compare).orElse(0);
    }

    private static void promise24Ratio() {
        Swapmere lab = Touching.with(3, 8);
        for (int policy = 0; policy < 4; policy++) {
            int asked = policy;
            CHECK.due("24: ratio(" + policy + ") without touches", Check.NO_ELEMENT,
                () -> lab.ratio(asked));
        }
        for (int i = 0; i < 3; i++) {
            lab.touchRun(0, 1, 4);
        }
        lab.touch(3);
        lab.touch(60);
        float[] faults = {13, 13, 13, 10};
        for (int policy = 0; policy < 4; policy++) {
            int asked = policy;
            CHECK.due("24: faults(" + policy + ")", (int) faults[policy], () -> lab.faults(asked));
            CHECK.due("24: ratio(" + policy + ")", faults[policy] / 7.0f, () -> lab.ratio(asked));
        }
        for (int policy : Check.outside(0, 3)) {
            CHECK.due("24: ratio(" + policy + ")", Check.ARGUMENT, () -> lab.ratio(policy));
            CHECK.due("24: ratio(" + policy + ") without touches", Check.ARGUMENT,
                () -> new Swapmere().ratio(policy));
        }
        // Prefetched pages do not fault, so policy 3 can have fewer faults than the best.
        Swapmere run = Touching.with(4, 8);
        run.touchRun(0, 1, 64);
        CHECK.due("24: ratio(3) below 1", 3.0f / 64.0f, () -> run.ratio(3));
        CHECK.due("24: ratio(0) of all faults", 1.0f, () -> run.ratio(0));
    }
}
