/** The sentences of the document's terms about policy 0, least recently used. */
public final class TermsRecencyTest {
    private static final Check CHECK = new Check("TermsRecencyTest");

    public static void main(String[] args) {
        noEvictionWithAnEmptyFrame();
        theLatestTouchLongestAgoGoes();
        aHitEvictsNone();
        oneFrame();
        sixteenFrames();
        CHECK.end();
    }

    // "If a fault finds m pages held": with m - 1 pages held, none is evicted.
    private static void noEvictionWithAnEmptyFrame() {
        Swapmere lab = Touching.with(3, 8, 10, 20);
        CHECK.due("no victim with two of three frames", Check.NO_ELEMENT, () -> lab.victim(0));
        lab.touch(40);
        held("the third page evicts none", lab, "10 20 40");
        CHECK.due("a victim with three of three frames", 10, () -> lab.victim(0));
        lab.touch(41);
        held("the fourth page evicts one", lab, "20 40 41");
    }

    // "the page whose latest touch is longest ago is evicted"
    private static void theLatestTouchLongestAgoGoes() {
        Swapmere lab = Touching.with(3, 8, 10, 20, 40, 10, 10);
        CHECK.due("the page touched first was touched again", 20, () -> lab.victim(0));
        lab.touch(50);
        held("20 goes", lab, "10 40 50");
        lab.touch(51);
        held("40 goes", lab, "10 50 51");
        lab.touch(52);
        held("10 goes", lab, "50 51 52");
        lab.touch(50);
        lab.touch(51);
        CHECK.due("the page touched last may become the first to go", 52, () -> lab.victim(0));
    }

    // A touch of a page that is held is no fault, and evicts none.
    private static void aHitEvictsNone() {
        Swapmere lab = Touching.with(3, 8, 10, 20, 40);
        for (int page : new int[] {10, 20, 40, 40, 20, 10, 10}) {
            lab.touch(page);
            held("after a touch of " + page, lab, "10 20 40");
        }
        CHECK.due("three faults", 3, () -> lab.faults(0));
        CHECK.due("the order is that of the latest touches", 40, () -> lab.victim(0));
    }

    private static void oneFrame() {
        Swapmere lab = Touching.with(1, 8, 7);
        CHECK.due("one frame is full with one page", 7, () -> lab.victim(0));
        CHECK.due("the same page again", 0, () -> lab.touch(7));
        CHECK.due("another page", 15, () -> lab.touch(8));
        held("one frame", lab, "8");
        CHECK.due("the first page again", 15, () -> lab.touch(7));
    }

    private static void sixteenFrames() {
        Swapmere lab = Touching.with(16, 8);
        lab.touchRun(0, 4, 15);
        CHECK.due("no victim with fifteen of sixteen frames", Check.NO_ELEMENT,
            () -> lab.victim(0));
        lab.touch(63);
        CHECK.due("a victim with sixteen of sixteen frames", 0, () -> lab.victim(0));
        CHECK.due("all are hits", 0, () -> lab.touchRun(0, 4, 15));
        CHECK.due("a touch of page 1 evicts", 1, () -> lab.touchRun(1, 0, 1));
        held("63 goes", lab, "0 1 4 8 12 16 20 24 28 32 36 40 44 48 52 56");
    }

    private static void held(String when, Swapmere lab, String pages) {
        CHECK.due("pages held, " + when, pages,
            () -> Touching.pagesThat(page -> lab.holds(0, page)));
    }
}
