import java.util.Arrays;

/**
 * The sentences of the document's terms about policy 2, the adaptive one. The lists are written
 * as "T1 | T2 | B1 | B2 | target", the pages of each from the least to the largest.
 */
public final class TermsAdaptiveTest {
    private static final Check CHECK = new Check("TermsAdaptiveTest");

    public static void main(String[] args) {
        targetIs0AtFirst();
        replaceWithMorePagesThanTheTarget();
        replaceWithAsManyPagesAsTheTarget();
        replaceWithFewerPagesThanTheTarget();
        replaceWithoutAPageInT1();
        pageOfT1OrT2();
        targetGrowsByOneAtLeast();
        targetGrowsByTheQuotientRoundedDown();
        targetBecomesMAtMost();
        targetFallsByOneAtLeast();
        targetFallsByTheQuotientRoundedDown();
        targetBecomes0AtLeast();
        pageInNoListWithRoom();
        pageInNoListWithT1Full();
        pageInNoListWithT1AndB1Full();
        pageInNoListWithAllListsAsLongAsM();
        pageInNoListWithAllListsAsLongAsTwiceM();
        leastRecentPagesGoFirst();
        oneFrame();
        CHECK.end();
    }

    // "a target, which is 0 at first"
    private static void targetIs0AtFirst() {
        CHECK.due("the lists of a new object", " |  |  |  | 0", () -> listsOf(new Swapmere()));
        for (int frames = 1; frames <= 16; frames++) {
            after(frames).are(" |  |  |  | 0");
        }
        Swapmere again = Touching.with(2, 8, 1, 1, 2, 3, 2);
        CHECK.due("the target before begin", 1, again::target);
        again.begin(2, 8);
        CHECK.due("the lists after begin", " |  |  |  | 0", () -> listsOf(again));
    }

    // "if T1 has a page, and has more pages than the target, ... the least recent page of T1 goes
    // to the most recent end of B1"
    private static void replaceWithMorePagesThanTheTarget() {
        after(2, 1, 1, 2).are("2 | 1 |  |  | 0").wouldEvict(2).then(3).are("3 | 1 | 2 |  | 0");
        // A page of B1: the target is 1 when the page is replaced, and T1 has two.
        after(3, 1, 1, 2, 3, 4).are("3 4 | 1 | 2 |  | 0").then(2).are("4 | 1 2 | 3 |  | 1");
        // A page of B2, the target stays 0.
        after(2, 1, 1, 2, 2, 3).are("3 | 2 |  | 1 | 0").then(1).are(" | 1 2 | 3 |  | 0");
    }

    // "or as many as the target while the touched page is in B2"; "otherwise the least recent
    // page of T2 goes to the most recent end of B2"
    private static void replaceWithAsManyPagesAsTheTarget() {
        // A page of B2: the target is 1 when the page is replaced, and T1 has one.
        after(3, 1, 1, 2, 3, 4, 2, 3).are("4 | 2 3 |  | 1 | 2").then(1).are(" | 1 2 3 | 4 |  | 1");
        // A page of B1.
        after(2, 1, 1, 2, 3).are("3 | 1 | 2 |  | 0").then(2).are("3 | 2 |  | 1 | 1");
        // A page in no list, with room in T1 and B1.
        after(2, 1, 1, 2, 3, 2).are("3 | 2 |  | 1 | 1").then(4).are("3 4 |  |  | 1 2 | 1");
        // A page in no list, with T1 and B1 full: 5 is dropped, and T2 loses its page.
        after(2, 3, 1, 3, 1, 5, 2, 3, 2, 4).are("4 | 2 | 5 | 3 | 1").then(6)
            .are("4 6 |  |  | 2 3 | 1");
        // A page in no list, with all four lists full.
        after(2, 1, 1, 2, 2, 3, 4, 3).are("4 | 3 |  | 1 2 | 1").wouldEvict(3)
            .then(5).are("4 5 |  |  | 2 3 | 1");
    }

    private static void replaceWithFewerPagesThanTheTarget() {
        after(3, 1, 1, 2, 3, 4, 2, 3).are("4 | 2 3 |  | 1 | 2").wouldEvict(2)
            .then(5).are("4 5 | 3 |  | 1 2 | 2");
        // A page of B1: the target grows from 1 to 2.
        after(3, 1, 1, 2, 3, 4, 2).are("4 | 1 2 | 3 |  | 1").then(3).are("4 | 2 3 |  | 1 | 2");
        // A page of B2: the target falls from 3 to 2, and T1 has one.
        after(5, 1, 2, 3, 4, 5, 5, 6, 1, 2, 3, 6).are("4 | 1 2 3 6 |  | 5 | 3")
            .then(5).are("4 | 2 3 5 6 |  | 1 | 2");
    }

    // "if T1 has a page": without one, T2 loses its least recent page, whatever the target
    private static void replaceWithoutAPageInT1() {
        after(2, 1, 1, 2, 2).are(" | 1 2 |  |  | 0").wouldEvict(1).then(3).are("3 | 2 |  | 1 | 0");
        // A page of B2 with the target 0: T1 has as many pages as the target, but none.
        after(2, 1, 1, 2, 2, 3, 3).are(" | 2 3 |  | 1 | 0").then(1).are(" | 1 3 |  | 2 | 0");
        after(3, 1, 1, 2, 3, 4, 2, 3, 4).are(" | 2 3 4 |  | 1 | 2").then(1).are(" | 1 3 4 |  | 2 | 1");
        after(2, 1, 1, 2, 3, 3).are(" | 1 3 | 2 |  | 0").then(2).are(" | 2 3 |  | 1 | 1");
    }

    // "the page is in T1 or T2: it goes to the most recent end of T2"
    private static void pageOfT1OrT2() {
        after(2, 1, 2).are("1 2 |  |  |  | 0").then(1).are("2 | 1 |  |  | 0")
            .then(1).are("2 | 1 |  |  | 0").then(2).are(" | 1 2 |  |  | 0");
        // T2 is 2, 1: of the two it loses 2.
        after(2, 1, 1, 2, 2, 1, 3).are("3 | 1 |  | 2 | 0");
        // T2 is 1, 2, and 2 came from T1: of the two it loses 1.
        after(2, 2, 1, 1, 2, 3).are("3 | 2 |  | 1 | 0");
    }

    // "it is in B1: the target grows by the size of B2 divided by the size of B1, rounded down,
    // but by 1 at least"; "Sizes are those before the touched page leaves its list."
    private static void targetGrowsByOneAtLeast() {
        // B2 by B1 is 0 by 1, 0 by 2, 1 by 2, 1 by 1, and 2 by 2.
        after(2, 1, 1, 2, 3).are("3 | 1 | 2 |  | 0").then(2).are("3 | 2 |  | 1 | 1");
        after(3, 1, 1, 2, 2, 3, 4, 5).are("5 | 1 2 | 3 4 |  | 0").then(3).are("5 | 2 3 | 4 | 1 | 1");
        after(3, 1, 1, 2, 2, 3, 3, 4, 5, 6).are("6 | 2 3 | 4 5 | 1 | 0")
            .then(4).are("6 | 3 4 | 5 | 1 2 | 1");
        after(3, 1, 1, 2, 3, 4, 2, 5).are("4 5 | 2 | 3 | 1 | 1").then(3).are("4 5 | 3 |  | 1 2 | 2");
        // Behind its leaving, B1 would have one page, and the quotient would be 2.
        after(4, 1, 1, 2, 2, 3, 3, 4, 5, 4, 6, 7, 8).are("7 8 | 3 4 | 5 6 | 1 2 | 1")
            .then(5).are("7 8 | 4 5 | 6 | 1 2 3 | 2");
    }

    private static void targetGrowsByTheQuotientRoundedDown() {
        // 2 by 1.
        after(3, 1, 1, 2, 2, 3, 3, 4, 4, 5, 6).are("6 | 3 4 | 5 | 1 2 | 0")
            .then(5).are("6 | 4 5 |  | 1 2 3 | 2");
        // 3 by 2.
        after(5, 1, 1, 2, 2, 3, 3, 4, 5, 6, 4, 5, 7, 8, 9, 10).are("8 9 10 | 4 5 | 6 7 | 1 2 3 | 2")
            .then(6).are("8 9 10 | 5 6 | 7 | 1 2 3 4 | 3");
        // 5 by 2.
        after(7, 1, 2, 3, 4, 5, 5, 6, 7, 8, 1, 9, 9, 2, 3, 4, 8, 10, 11, 12, 13, 14)
            .are("10 11 12 13 14 | 4 8 | 6 7 | 1 2 3 5 9 | 4")
            .then(7).are("10 11 12 13 14 | 7 8 | 6 | 1 2 3 4 5 9 | 6");
    }

    // "it becomes m at most"
    private static void targetBecomesMAtMost() {
        // To m itself, by 1 and by 2.
        after(2, 1, 1, 2, 2, 3, 4, 1, 3).are(" | 1 3 | 4 | 2 | 1").then(4).are(" | 3 4 |  | 1 2 | 2");
        after(3, 1, 1, 2, 2, 3, 4, 3, 5, 6).are("5 6 | 3 | 4 | 1 2 | 1")
            .then(4).are("5 6 | 4 |  | 1 2 3 | 3");
        // By 2 from m - 1.
        after(3, 1, 1, 2, 2, 3, 4, 3, 5, 6, 4, 1).are("6 | 1 4 | 5 | 2 3 | 2")
            .then(5).are("6 | 1 5 |  | 2 3 4 | 3");
        // By 5 from m, where it came by 2 with a page left in B1.
        after(6, 1, 1, 2, 3, 4, 5, 6, 7, 2, 3, 4, 8, 9, 10, 5, 11, 6, 4, 12, 3)
            .are("9 10 11 12 | 3 4 | 7 8 | 1 2 5 6 | 4")
            .then(7).are("9 10 11 12 | 3 7 | 8 | 1 2 4 5 6 | 6")
            .then(8).are("9 10 11 12 | 7 8 |  | 1 2 3 4 5 6 | 6");
    }

    // "it is in B2: the target falls by the size of B1 divided by the size of B2, rounded down,
    // but by 1 at least"
    private static void targetFallsByOneAtLeast() {
        // B1 by B2 is 0 by 1, 0 by 2, 1 by 1, 1 by 2, and 2 by 2.
        after(3, 1, 1, 2, 3, 4, 2, 3).are("4 | 2 3 |  | 1 | 2").then(1).are(" | 1 2 3 | 4 |  | 1");
        after(3, 1, 1, 2, 3, 4, 2, 3, 5).are("4 5 | 3 |  | 1 2 | 2").then(1).are("5 | 1 3 | 4 | 2 | 1");
        after(4, 1, 1, 2, 3, 4, 5, 2, 6, 3).are("5 6 | 2 3 | 4 | 1 | 2")
            .then(1).are("6 | 1 2 3 | 4 5 |  | 1");
        after(3, 1, 1, 2, 2, 3, 4, 3, 5, 6, 4, 1).are("6 | 1 4 | 5 | 2 3 | 2")
            .then(2).are(" | 1 2 4 | 5 6 | 3 | 1");
        // Behind its leaving, B2 would have one page, and the quotient would be 2.
        after(4, 1, 1, 2, 3, 4, 5, 2, 3, 6, 7, 4, 1, 2, 8).are("7 8 | 1 2 | 5 6 | 3 4 | 2")
            .then(3).are("8 | 1 2 3 | 5 6 7 | 4 | 1");
    }

    private static void targetFallsByTheQuotientRoundedDown() {
        // 2 by 1.
        after(4, 1, 1, 2, 3, 4, 5, 2, 3, 6, 7, 4, 1, 2).are("7 | 1 2 4 | 5 6 | 3 | 2")
            .then(3).are(" | 1 2 3 4 | 5 6 7 |  | 0");
        // 3 by 2.
        after(5, 1, 1, 2, 2, 3, 3, 4, 4, 5, 5, 6, 7, 8, 9, 10, 1, 6, 7)
            .are(" | 1 4 5 6 7 | 8 9 10 | 2 3 | 2").then(2).are(" | 1 2 5 6 7 | 8 9 10 | 3 4 | 1");
        // 5 by 2.
        after(8, 1, 2, 3, 4, 5, 6, 7, 8, 8, 9, 10, 2, 11, 3, 12, 4, 13, 5, 6, 14, 15, 7, 8, 2, 3, 9,
            16, 4, 5).are("15 16 | 2 3 4 5 8 9 | 10 11 12 13 14 | 6 7 | 3")
            .then(7).are("16 | 2 3 4 5 7 8 9 | 10 11 12 13 14 15 | 6 | 1");
    }

    // "it becomes 0 at least"
    private static void targetBecomes0AtLeast() {
        // To 0 itself, by 1.
        after(2, 1, 1, 2, 3, 2).are("3 | 2 |  | 1 | 1").then(1).are(" | 1 2 | 3 |  | 0");
        // By 2 from 1.
        after(3, 1, 1, 2, 2, 3, 3, 4, 5, 6, 1, 4).are(" | 1 3 4 | 5 6 | 2 | 1")
            .then(2).are(" | 1 2 4 | 5 6 | 3 | 0");
        // By 1 and by 2 from 0.
        after(2, 1, 1, 2, 2, 3).are("3 | 2 |  | 1 | 0").then(1).are(" | 1 2 | 3 |  | 0");
        after(3, 1, 1, 2, 2, 3, 3, 4, 5, 6).are("6 | 2 3 | 4 5 | 1 | 0")
            .then(1).are(" | 1 2 3 | 4 5 6 |  | 0");
    }

    // "In all cases the touched page goes to the most recent end of T1.", with fewer than m pages
    // in all lists: nothing is dropped or replaced.
    private static void pageInNoListWithRoom() {
        after(1).are(" |  |  |  | 0").then(0).are("0 |  |  |  | 0");
        after(2, 63).are("63 |  |  |  | 0").wouldEvict(Check.NO_ELEMENT).then(0).are("0 63 |  |  |  | 0");
        after(3, 1, 1, 2).are("2 | 1 |  |  | 0").then(3).are("2 3 | 1 |  |  | 0");
        after(16, 1, 2, 3, 4, 5, 6, 7, 8, 9, 10, 11, 12, 13, 14, 15)
            .are("1 2 3 4 5 6 7 8 9 10 11 12 13 14 15 |  |  |  | 0")
            .then(16).are("1 2 3 4 5 6 7 8 9 10 11 12 13 14 15 16 |  |  |  | 0");
    }

    // "if T1 has m pages, its least recent page is dropped from all lists"
    private static void pageInNoListWithT1Full() {
        after(2, 1, 2).are("1 2 |  |  |  | 0").wouldEvict(1).then(3).are("2 3 |  |  |  | 0");
        // The target is m, too, so that by it T1 would lose none.
        after(1, 1, 1, 2, 1, 2, 3).are("3 |  |  | 2 | 1").wouldEvict(3).then(4)
            .are("4 |  |  | 2 | 1").wouldEvict(4);
        // All four lists have 2 * m pages, but B2 drops none.
        after(2, 1, 1, 2, 3, 2, 4).are("3 4 |  |  | 1 2 | 1").then(5).are("4 5 |  |  | 1 2 | 1");
        after(16, 1, 2, 3, 4, 5, 6, 7, 8, 9, 10, 11, 12, 13, 14, 15, 16)
            .are("1 2 3 4 5 6 7 8 9 10 11 12 13 14 15 16 |  |  |  | 0")
            .then(17).are("2 3 4 5 6 7 8 9 10 11 12 13 14 15 16 17 |  |  |  | 0");
    }

    // "otherwise the least recent page of B1 is dropped, and then a page is replaced"
    private static void pageInNoListWithT1AndB1Full() {
        after(2, 1, 1, 2, 3).are("3 | 1 | 2 |  | 0").then(4).are("4 | 1 | 3 |  | 0");
        // All four lists have 2 * m pages, but B2 drops none.
        after(2, 1, 1, 2, 2, 3, 4).are("4 | 2 | 3 | 1 | 0").then(5).are("5 | 2 | 4 | 1 | 0");
        // T1 is empty, and B1 has m pages.
        after(2, 1, 1, 2, 2, 3, 4, 1).are(" | 1 2 | 3 4 |  | 0").then(5).are("5 | 1 | 4 | 2 | 0");
    }

    // "If T1 and B1 have fewer than m pages together, and all four lists have m or more: ... in
    // any case a page is replaced then."
    private static void pageInNoListWithAllListsAsLongAsM() {
        // m - 1 and m pages in all lists.
        after(3, 1, 1, 2).are("2 | 1 |  |  | 0").then(3).are("2 3 | 1 |  |  | 0")
            .then(4).are("3 4 | 1 | 2 |  | 0");
        after(2, 1, 1, 2, 2).are(" | 1 2 |  |  | 0").then(3).are("3 | 2 |  | 1 | 0");
        // 2 * m - 1 pages in all lists: one is replaced, none dropped.
        after(2, 1, 1, 2, 2, 3).are("3 | 2 |  | 1 | 0").then(4).are("4 | 2 | 3 | 1 | 0");
        after(2, 1, 1, 2, 3, 3).are(" | 1 3 | 2 |  | 0").then(4).are("4 | 3 | 2 | 1 | 0");
    }

    // "if they have 2 * m, the least recent page of B2 is dropped"
    private static void pageInNoListWithAllListsAsLongAsTwiceM() {
        after(2, 1, 1, 2, 2, 3, 3, 4).are("4 | 3 |  | 1 2 | 0").then(5).are("5 | 3 | 4 | 2 | 0");
        after(2, 1, 1, 2, 2, 3, 4, 4).are(" | 2 4 | 3 | 1 | 0").then(5).are("5 | 4 | 3 | 2 | 0");
        after(1, 1, 1, 2, 2).are(" | 2 |  | 1 | 0").then(3).are("3 |  |  | 2 | 0");
    }

    // "each from the least recent to the most recent end"
    private static void leastRecentPagesGoFirst() {
        after(3, 1, 2, 3).then(4).are("2 3 4 |  |  |  | 0").then(5).are("3 4 5 |  |  |  | 0");
        after(3, 1, 1, 2, 2, 3, 3).then(4).are("4 | 2 3 |  | 1 | 0")
            .then(4).then(5).are("5 | 3 4 |  | 1 2 | 0").then(5).then(6).are("6 | 4 5 |  | 1 2 3 | 0")
            .then(7).are("7 | 4 5 | 6 | 2 3 | 0").then(8).are("8 | 4 5 | 6 7 | 3 | 0");
        after(3, 1, 1, 2, 2, 3, 4, 5).are("5 | 1 2 | 3 4 |  | 0").then(6).are("6 | 1 2 | 4 5 |  | 0")
            .then(7).are("7 | 1 2 | 5 6 |  | 0");
    }

    private static void oneFrame() {
        after(1, 1).are("1 |  |  |  | 0").then(2).are("2 |  |  |  | 0").then(2).are(" | 2 |  |  | 0")
            .then(3).are("3 |  |  | 2 | 0").then(2).are(" | 2 | 3 |  | 0")
            .then(3).are(" | 3 |  | 2 | 1").then(4).are("4 |  |  | 3 | 1")
            .then(5).are("5 |  |  | 3 | 1").then(3).are(" | 3 | 5 |  | 0")
            .then(6).are("6 |  |  | 3 | 0");
    }

    private static Lists after(int frames, int... pages) {
        return new Lists(frames, pages);
    }

    private static String listsOf(Swapmere lab) {
        StringBuilder lists = new StringBuilder();
        for (int list = 1; list <= 4; list++) {
            int asked = list;
            lists.append(Touching.pagesThat(page -> lab.listOf(page) == asked)).append(" | ");
        }
        return lists.append(lab.target()).toString();
    }

    /** The lists after some touches; each question has a laboratory of its own. */
    private static final class Lists {
        private final int frames;
        private final int[] pages;
        private final String when;

        Lists(int frames, int[] pages) {
            this.frames = frames;
            this.pages = pages;
            when = frames + " frames after " + Arrays.toString(pages);
        }

        Lists then(int page) {
            int[] more = Arrays.copyOf(pages, pages.length + 1);
            more[pages.length] = page;
            return new Lists(frames, more);
        }

        Lists are(String lists) {
            CHECK.due(when + ": lists", lists, () -> listsOf(lab()));
            String[] parts = lists.split(" *\\| *", -1);
            for (int list = 1; list <= 4; list++) {
                int asked = list;
                CHECK.due(when + ": size of list " + list, numberOfPages(parts[list - 1]),
                    () -> lab().listSize(asked));
            }
            // "The pages in T1 and T2 are held."
            CHECK.due(when + ": pages held", numberOfPages(parts[0]) + numberOfPages(parts[1]),
                () -> lab().held(2));
            CHECK.due(when + ": other pages held", "", () -> pagesHeldElsewhere(lab()));
            return this;
        }

        Lists wouldEvict(Object page) {
            CHECK.due(when + ": victim", page, () -> lab().victim(2));
            return this;
        }

        private Swapmere lab() {
            return Touching.with(frames, 8, pages);
        }

        private static int numberOfPages(String part) {
            return part.isBlank() ? 0 : part.strip().split(" ").length;
        }

        private static String pagesHeldElsewhere(Swapmere lab) {
            return Touching.pagesThat(page ->
                lab.holds(2, page) != (lab.listOf(page) == 1 || lab.listOf(page) == 2));
        }
    }
}
