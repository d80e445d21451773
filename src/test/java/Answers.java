import java.util.function.Consumer;
import java.util.function.Function;
import java.util.function.Supplier;

/**
 * All that a laboratory answers, as a text, so that two states can be compared.
 *
 * <p>Nothing is promised behind the 512th call of an object, so the questions go to as many equal
 * objects as they need.
 */
final class Answers {
    private static final int QUESTIONS_OF_ONE = 250;

    private final Supplier<Swapmere> maker;
    private final StringBuilder all = new StringBuilder();
    private Swapmere lab;
    private int questionsLeft = 0;

    private Answers(Supplier<Swapmere> maker) {
        this.maker = maker;
    }

    /** The maker needs some 250 calls at most, so that an object is asked within its 512. */
    static String of(Supplier<Swapmere> maker) {
        Answers answers = new Answers(maker);
        answers.askWithoutArguments();
        for (int policy = 0; policy < 4; policy++) {
            answers.askOfPolicy(policy);
        }
        for (int page = 0; page < 64; page++) {
            answers.askOfPage(page);
        }
        answers.askOfListsAndFrames();
        for (int distance = 0; distance <= 400; distance++) {
            int asked = distance;
            answers.note("refaults " + distance, one -> one.refaults(asked));
        }
        int touches = maker.get().touches();
        for (int touch = 0; touch <= touches; touch++) {
            answers.askOfTouch(touch);
        }
        return answers.all.toString();
    }

    /** What is answered after one more call, whether it throws or not. */
    static String after(Supplier<Swapmere> maker, Consumer<Swapmere> call) {
        return of(() -> {
            Swapmere lab = maker.get();
            Check.answerOf(() -> call.accept(lab));
            return lab;
        });
    }

    private void askWithoutArguments() {
        note("touches", Swapmere::touches);
        note("hand", Swapmere::hand);
        note("target", Swapmere::target);
        note("prefetches", Swapmere::prefetches);
        note("usefulPrefetches", Swapmere::usefulPrefetches);
        note("averageWorkingSet", Swapmere::averageWorkingSet);
    }

    private void askOfPolicy(int policy) {
        note("faults " + policy, one -> one.faults(policy));
        note("held " + policy, one -> one.held(policy));
        note("victim " + policy, one -> one.victim(policy));
        note("ratio " + policy, one -> one.ratio(policy));
        for (int page = 0; page < 64; page++) {
            int asked = page;
            note("holds " + policy + " " + page, one -> one.holds(policy, asked));
        }
    }

    private void askOfPage(int page) {
        note("isReferenced " + page, one -> one.isReferenced(page));
        note("listOf " + page, one -> one.listOf(page));
        note("refaultDistance " + page, one -> one.refaultDistance(page));
    }

    private void askOfListsAndFrames() {
        for (int list = 1; list <= 4; list++) {
            int asked = list;
            note("listSize " + list, one -> one.listSize(asked));
        }
        for (int frames = 1; frames <= 16; frames++) {
            int asked = frames;
            note("faultsWith " + frames, one -> one.faultsWith(asked));
            note("bestFaults " + frames, one -> one.bestFaults(asked));
        }
    }

    private void askOfTouch(int touch) {
        note("pageOf " + touch, one -> one.pageOf(touch));
        note("workingSet " + touch, one -> one.workingSet(touch));
    }

    private void note(String what, Function<Swapmere, Object> question) {
        if (questionsLeft == 0) {
            lab = maker.get();
            questionsLeft = QUESTIONS_OF_ONE;
        }
        questionsLeft--;
        String answer = Check.answerOf(() -> question.apply(lab));
        if (answer.startsWith("throws ") && !answer.equals(Check.NO_ELEMENT)) {
            throw new AssertionError(what + " " + answer);
        }
        all.append(what).append(": ").append(answer).append('\n');
    }
}
