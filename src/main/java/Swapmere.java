import java.util.Arrays;
import java.util.NoSuchElementException;

/**
 * A laboratory of page replacement.
 *
 * <p>Four policies with the same number of frames see each touch of a page at once; what they
 * hold, which of them fault, and what would have been best can be asked after each touch.
 */
public final class Swapmere {
    private static final int PAGES = 64;
    private static final int MAX_FRAMES = 16;
    private static final int MAX_WINDOW = 100;
    private static final int MAX_TOUCHES = 400;
    private static final int MAX_STEP = 63;
    private static final int MAX_RUN = 64;
    private static final int FIRST_FRAMES = 4;
    private static final int FIRST_WINDOW = 8;
    private static final int NONE = -1;

    private final RecencyPolicy recency = new RecencyPolicy();
    private final ClockPolicy clock = new ClockPolicy();
    private final AdaptivePolicy adaptive = new AdaptivePolicy();
    private final StridePolicy strides = new StridePolicy();
    private final History history = new History();
    private final Hindsight hindsight = new Hindsight();
    private int frames;

    public Swapmere() {
        restart(FIRST_FRAMES, FIRST_WINDOW);
    }

    public void begin(int frames, int window) throws IllegalArgumentException {
        checkFrames(frames);
        if (window < 1 || window > MAX_WINDOW) {
            throw new IllegalArgumentException("the window is out of range");
        }
        restart(frames, window);
    }

    public int touch(int page) throws IllegalArgumentException, IllegalStateException {
        checkPage(page);
        checkRoomFor(1);
        return showToAll(page);
    }

    public int touchRun(int first, int step, int count)
            throws IllegalArgumentException, IllegalStateException {
        if (step < -MAX_STEP || step > MAX_STEP || count < 1 || count > MAX_RUN) {
            throw new IllegalArgumentException("the step or the count is out of range");
        }
        // The steps are equal, so all pages lie between the first and the last.
        checkPage(first);
        checkPage(first + step * (count - 1));
        checkRoomFor(count);
        int faultsBefore = recency.faultCount;
        for (int i = 0; i < count; i++) {
            showToAll(first + step * i);
        }
        return recency.faultCount - faultsBefore;
    }

    public int touches() {
        return history.count;
    }

    public int pageOf(int touch) throws NoSuchElementException {
        checkTouch(touch);
        return history.pages[touch];
    }

    // ---- policies

    public int faults(int policy) throws IllegalArgumentException {
        return policyNumbered(policy).faultCount;
    }

    public boolean holds(int policy, int page) throws IllegalArgumentException {
        checkPage(page);
        return policyNumbered(policy).keeps(page);
    }

    public int held(int policy) throws IllegalArgumentException {
        return policyNumbered(policy).keptCount();
    }

    public int victim(int policy) throws IllegalArgumentException, NoSuchElementException {
        int page = policyNumbered(policy).nextVictim();
        if (page == NONE) {
            throw new NoSuchElementException("no page would be evicted");
        }
        return page;
    }

    public int hand() {
        return clock.handFrame;
    }

    public boolean isReferenced(int page) throws IllegalArgumentException {
        checkPage(page);
        return clock.hasBitSet(page);
    }

    public int listOf(int page) throws IllegalArgumentException {
        checkPage(page);
        return adaptive.numberOfListWith(page);
    }

    public int listSize(int list) throws IllegalArgumentException {
        return listNumbered(list).count;
    }

    public int target() {
        return adaptive.aim;
    }

    public int prefetches() {
        return strides.prefetchCount;
    }

    public int usefulPrefetches() {
        return strides.usefulCount;
    }

    // ---- refaults and working sets

    public int refaults(int distance) throws IllegalArgumentException {
        if (distance < 0 || distance > MAX_TOUCHES) {
            throw new IllegalArgumentException("the distance is out of range");
        }
        return recency.refaultsUpTo(distance);
    }

    public int refaultDistance(int page) throws IllegalArgumentException, NoSuchElementException {
        checkPage(page);
        int distance = recency.latestDistance[page];
        if (distance == NONE) {
            throw new NoSuchElementException("there was no refault on the page");
        }
        return distance;
    }

    public int workingSet(int touch) throws NoSuchElementException {
        checkTouch(touch);
        return history.setSizes[touch];
    }

    public float averageWorkingSet() throws NoSuchElementException {
        if (history.count == 0) {
            throw new NoSuchElementException("there are no touches");
        }
        return (float) history.setSizeSum / (float) history.count;
    }

    // ---- hindsight

    public int faultsWith(int frames) throws IllegalArgumentException {
        checkFrames(frames);
        return history.faultsOfRecency(frames);
    }

    public int bestFaults(int frames) throws IllegalArgumentException {
        checkFrames(frames);
        return hindsight.fewestFaults(history, frames);
    }

    public float ratio(int policy) throws IllegalArgumentException, NoSuchElementException {
        int faultCount = policyNumbered(policy).faultCount;
        int fewest = hindsight.fewestFaults(history, frames);
        // The first touch always faults, so the fewest are 0 only without touches.
        if (fewest == 0) {
            throw new NoSuchElementException("there are no touches");
        }
        return (float) faultCount / (float) fewest;
    }

    private void restart(int newFrames, int window) {
        frames = newFrames;
        recency.startWith(newFrames);
        clock.startWith(newFrames);
        adaptive.startWith(newFrames);
        strides.startWith(newFrames);
        history.startWith(window);
    }

    private int showToAll(int page) {
        history.record(page);
        int faulting = recency.see(page) ? 1 : 0;
        faulting += clock.see(page) ? 2 : 0;
        faulting += adaptive.see(page) ? 4 : 0;
        faulting += strides.see(page) ? 8 : 0;
        return faulting;
    }

    private Policy policyNumbered(int policy) {
        switch (policy) {
            case 0:
                return recency;
            case 1:
                return clock;
            case 2:
                return adaptive;
            case 3:
                return strides;
            default:
                throw new IllegalArgumentException("the policy is out of range");
        }
    }

    private PageList listNumbered(int list) {
        switch (list) {
            case 1:
                return adaptive.t1;
            case 2:
                return adaptive.t2;
            case 3:
                return adaptive.b1;
            case 4:
                return adaptive.b2;
            default:
                throw new IllegalArgumentException("the list is out of range");
        }
    }

    private static boolean isPage(int page) {
        return page >= 0 && page < PAGES;
    }

    private static void checkPage(int page) {
        if (!isPage(page)) {
            throw new IllegalArgumentException("a page is out of range");
        }
    }

    private static void checkFrames(int frames) {
        if (frames < 1 || frames > MAX_FRAMES) {
            throw new IllegalArgumentException("the number of frames is out of range");
        }
    }

    private void checkRoomFor(int newTouches) {
        if (history.count + newTouches > MAX_TOUCHES) {
            throw new IllegalStateException("there would be too many touches");
        }
    }

    private void checkTouch(int touch) {
        if (touch < 0 || touch >= history.count) {
            throw new NoSuchElementException("there is no such touch");
        }
    }

    /** Pages, each at most once, from the least recent to the most recent end. */
    private static final class PageList {
        private final int[] pages = new int[PAGES];
        private int count = 0;

        void empty() {
            count = 0;
        }

        boolean contains(int page) {
            for (int i = 0; i < count; i++) {
                if (pages[i] == page) {
                    return true;
                }
            }
            return false;
        }

        int leastRecent() {
            return count > 0 ? pages[0] : NONE;
        }

        void addMostRecent(int page) {
            if (count < PAGES) {
                pages[count] = page;
                count++;
            }
        }

        void drop(int page) {
            int left = 0;
            for (int i = 0; i < count; i++) {
                if (pages[i] != page) {
                    pages[left] = pages[i];
                    left++;
                }
            }
            count = left;
        }

        int dropLeastRecent() {
            int page = leastRecent();
            drop(page);
            return page;
        }
    }

    /** What all four policies can be asked. */
    private abstract static class Policy {
        int frameCount = FIRST_FRAMES;
        int faultCount = 0;

        final void startWith(int newFrameCount) {
            frameCount = newFrameCount;
            faultCount = 0;
            forgetAll();
        }

        /** Returns whether the touch is a fault. */
        final boolean see(int page) {
            boolean isFault = !keeps(page);
            if (isFault) {
                faultCount++;
                bringIn(page);
            } else {
                touchKept(page);
            }
            afterTouch(page);
            return isFault;
        }

        abstract void forgetAll();

        abstract void bringIn(int page);

        abstract void touchKept(int page);

        abstract boolean keeps(int page);

        abstract int keptCount();

        /** Returns the page that a new page would evict, or NONE. */
        abstract int nextVictim();

        void afterTouch(int page) {
        }
    }

    /** A policy that evicts the page whose latest use is longest ago. */
    private abstract static class ByRecency extends Policy {
        final PageList kept = new PageList();

        final boolean keeps(int page) {
            return kept.contains(page);
        }

        final int keptCount() {
            return kept.count;
        }

        final int nextVictim() {
            return kept.count < frameCount ? NONE : kept.leastRecent();
        }

        final void renew(int page) {
            kept.drop(page);
            kept.addMostRecent(page);
        }

        /** Returns the page evicted for the new one, or NONE. */
        final int exchange(int page) {
            int evicted = nextVictim();
            kept.drop(evicted);
            kept.addMostRecent(page);
            return evicted;
        }
    }

    /** Policy 0, and the refaults, which are those of policy 0. */
    private static final class RecencyPolicy extends ByRecency {
        private final int[] evictionOf = new int[PAGES];
        private final int[] latestDistance = new int[PAGES];
        private final int[] refaultsAt = new int[MAX_TOUCHES + 1];
        private int evictions = 0;

        void forgetAll() {
            kept.empty();
            Arrays.fill(evictionOf, NONE);
            Arrays.fill(latestDistance, NONE);
            Arrays.fill(refaultsAt, 0);
            evictions = 0;
        }

        void touchKept(int page) {
            renew(page);
        }

        void bringIn(int page) {
            // The eviction of this fault itself does not count, so the refault comes first.
            noteRefault(page);
            int evicted = exchange(page);
            if (isPage(evicted)) {
                evictionOf[evicted] = evictions;
                evictions++;
            }
        }

        private void noteRefault(int page) {
            if (evictionOf[page] == NONE) {
                return;
            }
            int distance = evictions - evictionOf[page] - 1;
            latestDistance[page] = distance;
            if (distance >= 0 && distance <= MAX_TOUCHES) {
                refaultsAt[distance]++;
            }
        }

        int refaultsUpTo(int distance) {
            int sum = 0;
            for (int i = 0; i <= distance; i++) {
                sum += refaultsAt[i];
            }
            return sum;
        }
    }

    /** Policy 1: frames in a ring, with reference bits. */
    private static final class ClockPolicy extends Policy {
        private final int[] pages = new int[MAX_FRAMES];
        private final boolean[] bits = new boolean[MAX_FRAMES];
        private int used = 0;
        private int handFrame = 0;

        void forgetAll() {
            used = 0;
            handFrame = 0;
        }

        void touchKept(int page) {
            int frame = frameOf(page);
            if (frame != NONE) {
                bits[frame] = true;
            }
        }

        void bringIn(int page) {
            // Frames never become empty again, so the lowest empty one is the first unused one.
            if (used < frameCount) {
                put(page, used);
                used++;
            } else {
                clearBitsAtHand();
                put(page, handFrame);
                handFrame = frameAfter(handFrame);
            }
        }

        boolean keeps(int page) {
            return frameOf(page) != NONE;
        }

        int keptCount() {
            return used;
        }

        int nextVictim() {
            if (used < frameCount) {
                return NONE;
            }
            int frame = handFrame;
            // If all bits are set, the hand clears them and comes back to where it is.
            for (int i = 0; i < frameCount && bits[frame]; i++) {
                frame = frameAfter(frame);
            }
            return pages[frame];
        }

        boolean hasBitSet(int page) {
            int frame = frameOf(page);
            return frame != NONE && bits[frame];
        }

        private void clearBitsAtHand() {
            for (int i = 0; i < frameCount && bits[handFrame]; i++) {
                bits[handFrame] = false;
                handFrame = frameAfter(handFrame);
            }
        }

        private void put(int page, int frame) {
            pages[frame] = page;
            bits[frame] = true;
        }

        private int frameAfter(int frame) {
            return frame + 1 < frameCount ? frame + 1 : 0;
        }

        private int frameOf(int page) {
            for (int frame = 0; frame < used; frame++) {
                if (pages[frame] == page) {
                    return frame;
                }
            }
            return NONE;
        }
    }

    /** Policy 2: four lists, named as in the document, and a target. */
    private static final class AdaptivePolicy extends Policy {
        private final PageList t1 = new PageList();
        private final PageList t2 = new PageList();
        private final PageList b1 = new PageList();
        private final PageList b2 = new PageList();
        private int aim = 0;

        void forgetAll() {
            t1.empty();
            t2.empty();
            b1.empty();
            b2.empty();
            aim = 0;
        }

        void touchKept(int page) {
            t1.drop(page);
            t2.drop(page);
            t2.addMostRecent(page);
        }

        void bringIn(int page) {
            if (b1.contains(page)) {
                aim = Math.min(frameCount, aim + shift(b2.count, b1.count));
                replace(false);
                b1.drop(page);
                t2.addMostRecent(page);
            } else if (b2.contains(page)) {
                aim = Math.max(0, aim - shift(b1.count, b2.count));
                replace(true);
                b2.drop(page);
                t2.addMostRecent(page);
            } else {
                makeRoomForUnknown();
                t1.addMostRecent(page);
            }
        }

        boolean keeps(int page) {
            return t1.contains(page) || t2.contains(page);
        }

        int keptCount() {
            return t1.count + t2.count;
        }

        int nextVictim() {
            if (t1.count >= frameCount) {
                return t1.leastRecent();
            }
            if (sizeOfAll() < frameCount) {
                return NONE;
            }
            return replacesFromT1(false) ? t1.leastRecent() : t2.leastRecent();
        }

        int numberOfListWith(int page) {
            if (t1.contains(page)) {
                return 1;
            }
            if (t2.contains(page)) {
                return 2;
            }
            if (b1.contains(page)) {
                return 3;
            }
            return b2.contains(page) ? 4 : 0;
        }

        private void makeRoomForUnknown() {
            if (t1.count >= frameCount) {
                t1.dropLeastRecent();
            } else if (t1.count + b1.count >= frameCount) {
                b1.dropLeastRecent();
                replace(false);
            } else if (sizeOfAll() >= frameCount) {
                if (sizeOfAll() >= 2 * frameCount) {
                    b2.dropLeastRecent();
                }
                replace(false);
            }
        }

        private void replace(boolean touchedIsInB2) {
            if (replacesFromT1(touchedIsInB2)) {
                b1.addMostRecent(t1.dropLeastRecent());
            } else if (t2.count > 0) {
                b2.addMostRecent(t2.dropLeastRecent());
            }
        }

        private boolean replacesFromT1(boolean touchedIsInB2) {
            if (t1.count == 0) {
                return false;
            }
            return t1.count > aim || (t1.count == aim && touchedIsInB2);
        }

        private static int shift(int otherSize, int ownSize) {
            return ownSize > 0 ? Math.max(1, otherSize / ownSize) : 1;
        }

        private int sizeOfAll() {
            return t1.count + t2.count + b1.count + b2.count;
        }
    }

    /** Policy 3: by recency, with prefetching by strides. */
    private static final class StridePolicy extends ByRecency {
        private final boolean[] awaited = new boolean[PAGES];
        private int prefetchCount = 0;
        private int usefulCount = 0;
        private int seen = 0;
        private int last = 0;
        private int secondLast = 0;
        private int thirdLast = 0;

        void forgetAll() {
            kept.empty();
            for (int page = 0; page < PAGES; page++) {
                awaited[page] = false;
            }
            prefetchCount = 0;
            usefulCount = 0;
            seen = 0;
        }

        void touchKept(int page) {
            if (awaited[page]) {
                awaited[page] = false;
                usefulCount++;
            }
            renew(page);
        }

        void bringIn(int page) {
            int evicted = exchange(page);
            if (isPage(evicted)) {
                awaited[evicted] = false;
            }
        }

        void afterTouch(int page) {
            thirdLast = secondLast;
            secondLast = last;
            last = page;
            seen++;
            int ahead = pageAhead();
            if (isPage(ahead) && !keeps(ahead) && frameCount >= 2) {
                bringIn(ahead);
                awaited[ahead] = true;
                prefetchCount++;
            }
        }

        /** Returns what the next equal step would reach, or NONE if there are no equal steps. */
        private int pageAhead() {
            int stride = last - secondLast;
            boolean isSteady = seen >= 3 && stride == secondLast - thirdLast;
            return isSteady && stride != 0 ? last + stride : NONE;
        }
    }

    /** All touches so far, their working sets, and how recent their pages were. */
    private static final class History {
        private final int[] pages = new int[MAX_TOUCHES];
        private final int[] setSizes = new int[MAX_TOUCHES];
        private final int[] latestTouch = new int[PAGES];
        private final int[] touchesAtDepth = new int[PAGES];
        private int window = FIRST_WINDOW;
        private int count = 0;
        private int setSizeSum = 0;

        void startWith(int newWindow) {
            window = newWindow;
            count = 0;
            setSizeSum = 0;
            Arrays.fill(latestTouch, NONE);
            Arrays.fill(touchesAtDepth, 0);
        }

        void record(int page) {
            if (count >= MAX_TOUCHES) {
                return;
            }
            noteDepth(page);
            latestTouch[page] = count;
            pages[count] = page;
            setSizes[count] = pagesTouchedSince(Math.max(0, count - window + 1));
            setSizeSum += setSizes[count];
            count++;
        }

        /**
         * Policy 0 holds the pages touched last, whatever the number of frames: a touch is a hit
         * with more frames than there are pages touched since the page's latest touch.
         */
        int faultsOfRecency(int frames) {
            int hits = 0;
            for (int depth = 0; depth < frames && depth < PAGES; depth++) {
                hits += touchesAtDepth[depth];
            }
            return count - hits;
        }

        private void noteDepth(int page) {
            if (latestTouch[page] == NONE) {
                return;
            }
            int depth = pagesTouchedSince(latestTouch[page] + 1);
            if (depth < PAGES) {
                touchesAtDepth[depth]++;
            }
        }

        private int pagesTouchedSince(int touch) {
            int found = 0;
            for (int page = 0; page < PAGES; page++) {
                if (latestTouch[page] >= touch) {
                    found++;
                }
            }
            return found;
        }
    }

    /** The best replacement; its rows are kept so that no call has to make them. */
    private static final class Hindsight {
        private final int[] nextTouch = new int[MAX_TOUCHES];
        private final int[] nextOfPage = new int[PAGES];
        private final int[] nextOfFrame = new int[MAX_FRAMES];

        int fewestFaults(History history, int frames) {
            findNextTouches(history);
            int used = 0;
            int faultCount = 0;
            for (int touch = 0; touch < history.count; touch++) {
                // The touched page is held if a held page's next touch is this one.
                int frame = frameWaitingFor(touch, used);
                if (frame == NONE) {
                    faultCount++;
                    frame = used < frames ? used : farthest(used);
                    used = Math.max(used, frame + 1);
                }
                nextOfFrame[frame] = nextTouch[touch];
            }
            return faultCount;
        }

        private void findNextTouches(History history) {
            // A page without a next touch is farther than every touch there can be.
            Arrays.fill(nextOfPage, MAX_TOUCHES);
            for (int touch = history.count - 1; touch >= 0; touch--) {
                int page = history.pages[touch];
                nextTouch[touch] = nextOfPage[page];
                nextOfPage[page] = touch;
            }
        }

        private int frameWaitingFor(int touch, int used) {
            for (int frame = 0; frame < used; frame++) {
                if (nextOfFrame[frame] == touch) {
                    return frame;
                }
            }
            return NONE;
        }

        private int farthest(int used) {
            int found = 0;
            for (int frame = 1; frame < used; frame++) {
                if (nextOfFrame[frame] > nextOfFrame[found]) {
                    found = frame;
                }
            }
            return found;
        }
    }
}
