/** Promises 7 to 17: what the four policies hold and do. */
public final class PoliciesTest {
    private static final Check CHECK = new Check("PoliciesTest");

    public static void main(String[] args) {
        promise7Faults();
        promise8Holds();
        promise9Held();
        promise10Victim();
        promise10VictimOfAdaptive();
        promise11Hand();
        promise12IsReferenced();
        promise13ListOf();
        promise13AdaptiveDrops();
        promise13AsManyAsTheTarget();
        promise13OrderOfLists();
        promise14ListSize();
        promise15Target();
        promise16Prefetches();
        promise16NoPrefetches();
        promise17UsefulPrefetches();
        CHECK.end();
    }

    private static void promise7Faults() {
        Swapmere lab = Touching.with(3, 8);
        faults("without touches", lab, 0, 0, 0, 0);
        lab.touchRun(0, 1, 4);
        faults("after a run", lab, 4, 4, 4, 3);
        lab.touchRun(0, 1, 4);
        faults("after the run again", lab, 8, 8, 8, 6);
        Touching.touchTimes(lab, 3, 5);
        faults("after touches of a held page", lab, 8, 8, 8, 6);
        for (int policy : Check.outside(0, 3)) {
            CHECK.due("7: faults(" + policy + ")", Check.ARGUMENT, () -> lab.faults(policy));
        }
    }

    private static void faults(String when, Swapmere lab, int... counts) {
        for (int policy = 0; policy < 4; policy++) {
            int asked = policy;
            CHECK.due("7: faults(" + policy + ") " + when, counts[policy], () -> lab.faults(asked));
        }
    }

    private static void promise8Holds() {
        // Policies 0 and 3 evict 2, used longest ago; policy 1 evicts 1; policy 2 evicts 2 of T1.
        Swapmere lab = Touching.with(3, 8, 1, 2, 5, 1, 9);
        held("{1, 5, 9}", lab, 0, 1, 5, 9);
        held("{2, 5, 9}", lab, 1, 2, 5, 9);
        held("{1, 5, 9}", lab, 2, 1, 5, 9);
        held("{1, 5, 9}", lab, 3, 1, 5, 9);
        Swapmere strided = Touching.with(3, 8, 10, 8, 6);
        held("with a page prefetched", strided, 3, 8, 6, 4);
        held("without a page prefetched", strided, 0, 10, 8, 6);
        Swapmere edges = Touching.with(2, 8, 0, 63);
        held("the edges", edges, 1, 0, 63);
        for (int wrong : Check.outside(0, 63)) {
            CHECK.due("8: holds(0, " + wrong + ")", Check.ARGUMENT, () -> lab.holds(0, wrong));
        }
        for (int wrong : Check.outside(0, 3)) {
            CHECK.due("8: holds(" + wrong + ", 1)", Check.ARGUMENT, () -> lab.holds(wrong, 1));
        }
        CHECK.due("8: holds(4, 64)", Check.ARGUMENT, () -> lab.holds(4, 64));
    }

    private static void held(String what, Swapmere lab, int policy, int... pages) {
        for (int page = 0; page < 64; page++) {
            boolean want = isAmong(pages, page);
            int asked = page;
            CHECK.due("8: holds(" + policy + ", " + page + "), " + what, want,
                () -> lab.holds(policy, asked));
        }
    }

    private static boolean isAmong(int[] pages, int page) {
        for (int one : pages) {
            if (one == page) {
                return true;
            }
        }
        return false;
    }

    private static void promise9Held() {
        Swapmere lab = Touching.with(3, 8);
        heldCounts("without touches", lab, 0, 0, 0, 0);
        Touching.touchAll(lab, 7, 7);
        heldCounts("after one page", lab, 1, 1, 1, 1);
        Touching.touchAll(lab, 8, 9);
        heldCounts("after three pages in equal steps", lab, 3, 3, 3, 3);
        lab.touchRun(0, 5, 10);
        heldCounts("after many pages", lab, 3, 3, 3, 3);
        heldCounts("after two pages and a prefetch", Touching.with(9, 8, 7, 8, 9), 3, 3, 3, 4);
        for (int policy : Check.outside(0, 3)) {
            CHECK.due("9: held(" + policy + ")", Check.ARGUMENT, () -> lab.held(policy));
        }
    }

    private static void heldCounts(String when, Swapmere lab, int... counts) {
        for (int policy = 0; policy < 4; policy++) {
            int asked = policy;
            CHECK.due("9: held(" + policy + ") " + when, counts[policy], () -> lab.held(asked));
        }
    }

    private static void promise10Victim() {
        Swapmere lab = Touching.with(3, 8);
        victims("without touches", lab, -1, -1, -1, -1);
        Touching.touchAll(lab, 1, 2);
        victims("with an empty frame", lab, -1, -1, -1, -1);
        Touching.touchAll(lab, 5);
        victims("with all frames in use", lab, 1, 1, 1, 1);
        Touching.touchAll(lab, 1);
        victims("after another touch", lab, 2, 1, 2, 2);
        Touching.touchAll(lab, 9);
        // Policy 1 has 9, 2, 5 with only the bit of 9 set, and the hand at 2.
        victims("after an eviction", lab, 5, 2, 5, 5);
        Touching.touchAll(lab, 2);
        // Policy 1: the bit of 2 is set, so that the hand would go on to 5.
        CHECK.due("10: victim(1) behind a set bit", 5, () -> lab.victim(1));
        CHECK.due("10: asking changes nothing", 5, () -> lab.victim(1));
        Swapmere strided = Touching.with(3, 8, 10, 20, 30);
        victims("after a prefetch", strided, 10, 10, 10, 20);
        for (int policy : Check.outside(0, 3)) {
            CHECK.due("10: victim(" + policy + ")", Check.ARGUMENT, () -> lab.victim(policy));
            CHECK.due("10: victim(" + policy + ") without touches", Check.ARGUMENT,
                () -> new Swapmere().victim(policy));
        }
        // All pages have been touched, so the question is about a page that is not there.
        Swapmere all = Touching.with(2, 8);
        all.touchRun(0, 1, 64);
        victims("after all pages", all, 62, 62, 62, 62);
    }

    private static void promise10VictimOfAdaptive() {
        Swapmere lab = Touching.with(2, 8, 1, 2, 1, 2);
        CHECK.due("10: victim(2) with T1 empty", 1, () -> lab.victim(2));
        Touching.touchAll(lab, 3);
        // T1 3, T2 2, B2 1, target 0.
        CHECK.due("10: victim(2) of T1", 3, () -> lab.victim(2));
        Swapmere grown = Touching.with(2, 8, 1, 2, 1, 3, 2);
        // T1 3, T2 2, B2 1, target 1: as many in T1 as the target, so T2 loses its page.
        CHECK.due("10: victim(2) with as many in T1 as the target", 2, () -> grown.victim(2));
    }

    private static void victims(String when, Swapmere lab, int... pages) {
        for (int policy = 0; policy < 4; policy++) {
            int asked = policy;
            Object want = pages[policy] < 0 ? Check.NO_ELEMENT : (Object) pages[policy];
            CHECK.due("10: victim(" + policy + ") " + when, want, () -> lab.victim(asked));
        }
    }

    private static void promise11Hand() {
        Swapmere lab = Touching.with(3, 8);
        CHECK.due("11: hand() without touches", 0, lab::hand);
        int[] pages = {1, 2, 5, 1, 9, 2, 10, 11, 12};
        // 9 goes to frame 0, 10 past 2 to frame 2, 11 past 9 to frame 1, 12 past 10 to frame 0.
        int[] hands = {0, 0, 0, 0, 1, 1, 0, 2, 1};
        for (int i = 0; i < pages.length; i++) {
            lab.touch(pages[i]);
            CHECK.due("11: hand() after touch " + i, hands[i], lab::hand);
        }
        Swapmere one = Touching.with(1, 8, 1, 2, 3);
        CHECK.due("11: hand() of one frame", 0, one::hand);
    }

    private static void promise12IsReferenced() {
        Swapmere lab = Touching.with(3, 8);
        referenced("without touches", lab);
        Touching.touchAll(lab, 1, 2, 5);
        referenced("after pages put into empty frames", lab, 1, 2, 5);
        Touching.touchAll(lab, 9);
        referenced("after an eviction", lab, 9);
        Touching.touchAll(lab, 2);
        referenced("after a touch of a held page", lab, 9, 2);
        Touching.touchAll(lab, 10);
        referenced("after an eviction past a set bit", lab, 9, 10);
        for (int page : Check.outside(0, 63)) {
            CHECK.due("12: isReferenced(" + page + ")", Check.ARGUMENT,
                () -> lab.isReferenced(page));
        }
    }

    private static void referenced(String when, Swapmere lab, int... pages) {
        for (int page = 0; page < 64; page++) {
            boolean want = isAmong(pages, page);
            int asked = page;
            CHECK.due("12: isReferenced(" + page + ") " + when, want,
                () -> lab.isReferenced(asked));
        }
    }

    private static void promise13ListOf() {
        Swapmere lab = Touching.with(2, 8, 1, 2);
        lists("first touches", lab, 1, 1, 0, 0);
        Touching.touchAll(lab, 1);
        lists("a second touch", lab, 2, 1, 0, 0);
        Touching.touchAll(lab, 3);
        lists("a page replaced from T1", lab, 2, 3, 1, 0);
        Touching.touchAll(lab, 2);
        lists("a page of B1, with T1 as long as the target", lab, 4, 2, 1, 0);
        Touching.touchAll(lab, 1);
        lists("a page of B2, with T1 longer than the target", lab, 2, 2, 3, 0);
        Touching.touchAll(lab, 4);
        lists("a new page, with T1 empty", lab, 2, 4, 3, 1);
        for (int page : Check.outside(0, 63)) {
            CHECK.due("13: listOf(" + page + ")", Check.ARGUMENT, () -> lab.listOf(page));
        }
        CHECK.due("13: listOf(63)", 0, () -> lab.listOf(63));
        CHECK.due("13: listOf(0)", 0, () -> lab.listOf(0));
    }

    private static void promise13AsManyAsTheTarget() {
        // T1 3, T2 4 and 1, B2 2, target 2: it falls to 1, and 3 goes, for 2 is in B2.
        Swapmere inB2 = Touching.with(3, 8, 2, 4, 2, 1, 3, 4, 1, 2);
        lists("as many as the target, a page of B2", inB2, 2, 2, 3, 2);
        // T1 2, T2 1, B1 3: the target grows to 1, and 1 goes.
        Swapmere inB1 = Touching.with(2, 8, 1, 3, 1, 2, 3);
        lists("as many as the target, a page of B1", inB1, 4, 1, 2, 0);
        // T1 3, T2 2, B2 1, target 1: 2 goes.
        Swapmere fresh = Touching.with(2, 8, 1, 2, 1, 3, 2, 4);
        lists("as many as the target, a new page", fresh, 4, 4, 1, 1);
        // T1 4, T2 2, B1 5, B2 3, target 1: 5 is dropped, and 2 goes.
        Swapmere full = Touching.with(2, 8, 3, 1, 3, 1, 5, 2, 3, 2, 4, 6);
        lists("as many as the target, T1 and B1 full", full, 0, 4, 4, 1, 0, 1);
        // T2 2, B2 1, target 1, then T1 3, B2 2: as many in T1 as the target and as m.
        Swapmere one = Touching.with(1, 8, 1, 1, 2, 1, 2, 3);
        CHECK.due("10: victim(2) of a full T1 as long as the target", 3, () -> one.victim(2));
        one.touch(4);
        lists("as many as the target and m", one, 0, 4, 0, 1);
    }

    private static void promise13OrderOfLists() {
        Swapmere again = Touching.with(2, 8, 1, 2, 1, 2, 1);
        CHECK.due("14: a page of T2 stays there once", 2, () -> again.listSize(2));
        again.touch(3);
        lists("a page of T2 goes to its most recent end", again, 2, 4, 1, 0);
        Swapmere left = Touching.with(2, 8, 1, 2, 1, 3, 2, 1);
        sizes("a page leaves B2", left, 0, 2, 1, 0);
    }

    private static void lists(String when, Swapmere lab, int... numbers) {
        for (int i = 0; i < numbers.length; i++) {
            int page = i + 1;
            CHECK.due("13: listOf(" + page + "), " + when, numbers[i], () -> lab.listOf(page));
        }
    }

    private static void promise13AdaptiveDrops() {
        Swapmere full = Touching.with(2, 8, 1, 2, 3);
        lists("a page dropped of a full T1", full, 0, 1, 1, 0);
        Swapmere ghost = Touching.with(2, 8, 1, 2, 1, 3, 4);
        // T1 3, T2 1, B1 2: T1 and B1 have two, so 2 is dropped of B1, and 3 goes there.
        lists("a page dropped of B1", ghost, 2, 0, 3, 1);
        Swapmere wide = Touching.with(2, 8, 1, 1, 2, 2, 3, 3, 4, 4);
        // T2 3, 4 and B2 1, 2: all four lists have four, so 1 is dropped of B2, and 3 goes there.
        lists("B2 full", wide, 4, 4, 2, 2);
        wide.touch(5);
        lists("a page dropped of B2", wide, 0, 4, 4, 2);
        Swapmere one = Touching.with(1, 8, 1, 1, 2);
        lists("one frame, a page of T2 replaced", one, 4, 1, 0, 0);
        one.touch(1);
        lists("one frame, a page of B2 touched", one, 2, 3, 0, 0);
    }

    private static void promise14ListSize() {
        Swapmere lab = Touching.with(2, 8);
        sizes("without touches", lab, 0, 0, 0, 0);
        Touching.touchAll(lab, 1, 2);
        sizes("first touches", lab, 2, 0, 0, 0);
        Touching.touchAll(lab, 1, 3);
        sizes("a page replaced", lab, 1, 1, 1, 0);
        Touching.touchAll(lab, 2, 1, 4);
        sizes("after more touches", lab, 1, 1, 1, 1);
        for (int list : Check.outside(1, 4)) {
            CHECK.due("14: listSize(" + list + ")", Check.ARGUMENT, () -> lab.listSize(list));
        }
    }

    private static void sizes(String when, Swapmere lab, int... counts) {
        for (int i = 0; i < counts.length; i++) {
            int list = i + 1;
            CHECK.due("14: listSize(" + list + "), " + when, counts[i], () -> lab.listSize(list));
        }
    }

    private static void promise15Target() {
        targets(1, new int[] {1, 1, 2, 1, 2}, 0, 0, 0, 0, 1);
        targets(2, new int[] {1, 2, 1, 3, 2, 1, 3, 2}, 0, 0, 0, 0, 1, 0, 1, 0);
        // At the end B1 has 6, B2 has 1 and 3: the target would grow by 2, but m is 3.
        targets(3, new int[] {5, 3, 1, 1, 3, 4, 6, 4, 2, 5, 4, 6},
            0, 0, 0, 0, 0, 0, 0, 1, 1, 3, 2, 3);
        // At the end B1 has 6 and 1, B2 has 4: the target falls by 2.
        targets(4, new int[] {5, 7, 2, 4, 4, 6, 5, 1, 7, 3, 2, 7, 5, 4},
            0, 0, 0, 0, 0, 0, 1, 1, 2, 2, 4, 3, 2, 0);
        // B1 has 13, B2 has 10, 11, 12: the target grows by 3 at once, then 13 is in B1 no more.
        Swapmere fast = Touching.with(4, 8, 10, 10, 11, 11, 12, 12, 13, 14, 14, 15, 15, 16, 16, 17, 17);
        CHECK.due("15: the first target", 0, fast::target);
        CHECK.due("15: listSize(3)", 1, () -> fast.listSize(3));
        CHECK.due("15: listSize(4)", 3, () -> fast.listSize(4));
        fast.touch(13);
        CHECK.due("15: the target grows by a quotient", 3, fast::target);
        fast.touch(12);
        CHECK.due("15: the target falls by one at least", 2, fast::target);
    }

    private static void targets(int frames, int[] pages, int... targets) {
        Swapmere lab = Touching.with(frames, 8);
        for (int i = 0; i < pages.length; i++) {
            lab.touch(pages[i]);
            CHECK.due("15: target() of " + frames + " frames after touch " + i, targets[i],
                lab::target);
        }
    }

    private static void promise16Prefetches() {
        Swapmere lab = Touching.with(4, 8, 10, 12);
        CHECK.due("16: two touches", 0, lab::prefetches);
        lab.touch(14);
        CHECK.due("16: three touches in equal steps", 1, lab::prefetches);
        CHECK.due("16: the page prefetched is held", true, () -> lab.holds(3, 16));
        CHECK.due("16: a prefetch is no fault", 3, () -> lab.faults(3));
        Touching.touchAll(lab, 16, 18);
        CHECK.due("16: every further step prefetches", 3, lab::prefetches);
        CHECK.due("16: pages prefetched do not fault", 3, () -> lab.faults(3));
        CHECK.due("16: a prefetch evicts", false, () -> lab.holds(3, 12));
        CHECK.due("16: a prefetch evicts one page", true, () -> lab.holds(3, 14));
        Swapmere down = Touching.with(4, 8, 4, 2, 0);
        CHECK.due("16: no page below 0", 0, down::prefetches);
        Swapmere up = Touching.with(4, 8, 61, 62, 63);
        CHECK.due("16: no page above 63", 0, up::prefetches);
        CHECK.due("16: page 0 is prefetched", true, () -> Touching.with(4, 8, 3, 2, 1).holds(3, 0));
        CHECK.due("16: page 63 is prefetched", true,
            () -> Touching.with(4, 8, 60, 61, 62).holds(3, 63));
        Swapmere two = Touching.with(2, 8, 3, 2, 1);
        CHECK.due("16: two frames", 1, two::prefetches);
        CHECK.due("16: the touched page stays", true, () -> two.holds(3, 1));
        CHECK.due("16: the other page goes", false, () -> two.holds(3, 2));
        // 16 was prefetched after 14 was touched, so 10, 12, 14 go before it.
        Swapmere order = Touching.with(4, 8, 10, 12, 14, 40, 50, 41);
        CHECK.due("16: a prefetch counts as a touch", true, () -> order.holds(3, 16));
        order.touch(51);
        CHECK.due("16: a prefetched page goes in its turn", false, () -> order.holds(3, 16));
    }

    private static void promise16NoPrefetches() {
        CHECK.due("16: steps of 0", 0, () -> Touching.with(4, 8, 5, 5, 5, 5).prefetches());
        CHECK.due("16: unequal steps", 0, () -> Touching.with(4, 8, 5, 6, 8, 9).prefetches());
        CHECK.due("16: opposite steps", 0, () -> Touching.with(4, 8, 5, 6, 5, 6).prefetches());
        CHECK.due("16: one frame", 0, () -> Touching.with(1, 8, 5, 6, 7, 8).prefetches());
        CHECK.due("16: a page held already", 0, () -> Touching.with(6, 8, 8, 5, 6, 7).prefetches());
        CHECK.due("16: the first two touches", 0, () -> Touching.with(4, 8, 1, 2).prefetches());
        CHECK.due("16: without touches", 0, () -> new Swapmere().prefetches());
    }

    private static void promise17UsefulPrefetches() {
        Swapmere lab = Touching.with(4, 8, 10, 12, 14);
        CHECK.due("17: not touched yet", 0, lab::usefulPrefetches);
        lab.touch(16);
        CHECK.due("17: touched", 1, lab::usefulPrefetches);
        lab.touch(16);
        CHECK.due("17: touched again", 1, lab::usefulPrefetches);
        Swapmere late = Touching.with(4, 8, 10, 12, 14, 40, 50, 41, 51);
        CHECK.due("17: evicted", false, () -> late.holds(3, 16));
        late.touch(16);
        CHECK.due("17: touched after its eviction", 0, late::usefulPrefetches);
        late.touch(16);
        CHECK.due("17: touched again after its eviction", 0, late::usefulPrefetches);
        CHECK.due("17: pages that were only touched", 0,
            () -> Touching.with(4, 8, 1, 5, 1, 5).usefulPrefetches());
        Swapmere two = Touching.with(2, 8, 3, 2, 1, 20, 31, 0);
        CHECK.due("17: evicted by a fault", 0, two::usefulPrefetches);
        CHECK.due("17: touched before it is evicted by a fault", 1,
            () -> Touching.with(2, 8, 3, 2, 1, 20, 0).usefulPrefetches());
        // 4 is prefetched after 3; the second 1 evicts 3, and the prefetch of 0 behind it evicts 4.
        Swapmere three = Touching.with(3, 8, 1, 2, 3, 2, 1, 4);
        CHECK.due("17: evicted by a prefetch", 0, three::usefulPrefetches);
        CHECK.due("17: two prefetches", 2, three::prefetches);
    }
}
