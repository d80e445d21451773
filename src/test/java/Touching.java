import java.util.function.IntPredicate;

/** Short ways to bring a laboratory into a state. */
final class Touching {
    private Touching() {
    }

    static Swapmere with(int frames, int window, int... pages) {
        Swapmere lab = new Swapmere();
        lab.begin(frames, window);
        touchAll(lab, pages);
        return lab;
    }

    static void touchAll(Swapmere lab, int... pages) {
        for (int page : pages) {
            lab.touch(page);
        }
    }

    static void touchTimes(Swapmere lab, int page, int times) {
        for (int i = 0; i < times; i++) {
            lab.touch(page);
        }
    }

    /** The pages of which something is true, from the least to the largest. */
    static String pagesThat(IntPredicate isSo) {
        StringBuilder pages = new StringBuilder();
        for (int page = 0; page < 64; page++) {
            if (isSo.test(page)) {
                pages.append(pages.length() > 0 ? " " : "").append(page);
            }
        }
        return pages.toString();
    }
}
