import java.util.List;
import java.util.function.Consumer;
import java.util.function.Supplier;

/** A state of a laboratory that can be made again and again. */
final class State {
    static final State EMPTY = new State("a new object", Swapmere::new);
    static final State EMPTY_AGAIN = new State("a laboratory begun again", State::begunAgain);
    static final State EMPTY_FRAMES = new State("one with empty frames",
        () -> Touching.with(6, 3, 1, 20, 20, 63, 1));
    static final State IN_USE = new State("a laboratory in use", State::inUse);
    static final State NEARLY_FULL = new State("one of 399 touches", () -> withTouches(399));
    static final State FULL = new State("one of 400 touches", () -> withTouches(400));
    static final List<State> ALL =
        List.of(EMPTY, EMPTY_AGAIN, EMPTY_FRAMES, IN_USE, NEARLY_FULL, FULL);

    final String name;
    final Supplier<Swapmere> maker;
    private final String answers;
    private final String answersLater;

    private State(String name, Supplier<Swapmere> maker) {
        this.name = name;
        this.maker = maker;
        answers = Answers.of(maker);
        answersLater = Answers.after(maker, State::goOn);
    }

    /** Whether all answers are as they were before a call, at once and after more touches. */
    boolean isLeftAsItWasBy(Consumer<Swapmere> call) {
        return Answers.after(maker, call).equals(answers)
            && Answers.after(() -> madeAndCalled(call), State::goOn).equals(answersLater);
    }

    private Swapmere madeAndCalled(Consumer<Swapmere> call) {
        Swapmere lab = maker.get();
        Check.answerOf(() -> call.accept(lab));
        return lab;
    }

    /** What the answers do not show, such as the order of the lists, shows in what comes. */
    private static void goOn(Swapmere lab) {
        int room = 400 - lab.touches();
        int[] pages = {6, 9, 9, 2, 40, 5, 4, 7};
        for (int i = 0; i < pages.length && i < room; i++) {
            lab.touch(pages[i]);
        }
        if (room >= 70) {
            lab.touchRun(0, 1, 60);
        }
    }

    private static Swapmere begunAgain() {
        Swapmere lab = inUse();
        lab.begin(3, 5);
        return lab;
    }

    /** All lists have pages, the hand and the target are inside their ranges. */
    private static Swapmere inUse() {
        return Touching.with(4, 5, 6, 4, 2, 3, 4, 5, 6, 7, 8, 5, 2, 6);
    }

    private static Swapmere withTouches(int touches) {
        Swapmere lab = inUse();
        while (lab.touches() + 64 <= touches) {
            lab.touchRun(0, 1, 64);
        }
        lab.touchRun(62, 0, touches - lab.touches());
        return lab;
    }
}
