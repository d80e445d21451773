import java.util.ArrayList;
import java.util.List;
import java.util.function.BiFunction;
import java.util.function.Consumer;
import java.util.function.Function;

/**
 * All promises: the range of each argument, what is thrown outside of it and which exception goes
 * first, and that a call that throws an exception changes nothing, in each of several states.
 */
public final class RefusalsTest {
    private static final Check CHECK = new Check("RefusalsTest");

    /** An argument, with the call that has it and no other argument that could be wrong. */
    private static final class Argument {
        final String call;
        final int low;
        final int high;
        final BiFunction<Swapmere, Integer, Object> answer;

        Argument(String call, int low, int high, BiFunction<Swapmere, Integer, Object> answer) {
            this.call = call;
            this.low = low;
            this.high = high;
            this.answer = answer;
        }
    }

    public static void main(String[] args) {
        statesAreOfManyKinds();
        for (State state : State.ALL) {
            for (Argument argument : arguments()) {
                insideOfItsRange(state, argument);
                outsideOfItsRange(state, argument);
            }
            touchesThatAreNot(state);
        }
        twoArgumentsOutsideOfTheirRanges();
        runsThatLeaveThePages();
        moreThan400Touches();
        noSuchThingInAnEmptyLaboratory();
        noSuchThingInAnotherLaboratory();
        argumentsGoFirst();
        CHECK.end();
    }

    /** A refused call can only be seen to change what there is. */
    private static void statesAreOfManyKinds() {
        Swapmere lab = State.IN_USE.maker.get();
        for (int list = 1; list <= 4; list++) {
            int asked = list;
            CHECK.due("list " + list + " in use has pages", true, () -> lab.listSize(asked) > 0);
        }
        CHECK.due("the hand is between its ends", true, () -> lab.hand() > 0 && lab.hand() < 3);
        CHECK.due("the target is between its ends", true,
            () -> lab.target() > 0 && lab.target() < 4);
        CHECK.due("some prefetches were useful, others not", true,
            () -> lab.usefulPrefetches() > 0 && lab.usefulPrefetches() < lab.prefetches());
        CHECK.due("there are refaults", true, () -> lab.refaults(400) > lab.refaults(0));
        CHECK.due("nearly full", 399, () -> State.NEARLY_FULL.maker.get().touches());
        CHECK.due("full", 400, () -> State.FULL.maker.get().touches());
    }

    private static List<Argument> arguments() {
        List<Argument> all = new ArrayList<>();
        all.add(new Argument("2: begin(_, 8)", 1, 16, (lab, number) -> begun(lab, number, 8)));
        all.add(new Argument("2: begin(4, _)", 1, 100, (lab, number) -> begun(lab, 4, number)));
        all.add(new Argument("3: touch(_)", 0, 63, Swapmere::touch));
        all.add(new Argument("4: touchRun(_, 0, 1)", 0, 63,
            (lab, number) -> lab.touchRun(number, 0, 1)));
        // With one touch alone there is no step, but the step has its range nevertheless.
        all.add(new Argument("4: touchRun(0, _, 1)", -63, 63,
            (lab, number) -> lab.touchRun(0, number, 1)));
        all.add(new Argument("4: touchRun(63, 0, _)", 1, 64,
            (lab, number) -> lab.touchRun(63, 0, number)));
        all.add(new Argument("7: faults(_)", 0, 3, Swapmere::faults));
        all.add(new Argument("8: holds(_, 0)", 0, 3, (lab, number) -> lab.holds(number, 0)));
        for (int policy = 0; policy < 4; policy++) {
            int asked = policy;
            all.add(new Argument("8: holds(" + policy + ", _)", 0, 63,
                (lab, number) -> lab.holds(asked, number)));
        }
        all.add(new Argument("9: held(_)", 0, 3, Swapmere::held));
        all.add(new Argument("10: victim(_)", 0, 3, Swapmere::victim));
        all.add(new Argument("12: isReferenced(_)", 0, 63, Swapmere::isReferenced));
        all.add(new Argument("13: listOf(_)", 0, 63, Swapmere::listOf));
        all.add(new Argument("14: listSize(_)", 1, 4, Swapmere::listSize));
        all.add(new Argument("18: refaults(_)", 0, 400, Swapmere::refaults));
        all.add(new Argument("19: refaultDistance(_)", 0, 63, Swapmere::refaultDistance));
        all.add(new Argument("22: faultsWith(_)", 1, 16, Swapmere::faultsWith));
        all.add(new Argument("23: bestFaults(_)", 1, 16, Swapmere::bestFaults));
        all.add(new Argument("24: ratio(_)", 0, 3, Swapmere::ratio));
        return all;
    }

    private static String begun(Swapmere lab, int frames, int window) {
        lab.begin(frames, window);
        return "done";
    }

    private static void insideOfItsRange(State state, Argument argument) {
        for (int number : new int[] {argument.low, argument.low + 1, argument.high - 1, argument.high}) {
            String answer = Check.answerOf(() -> argument.answer.apply(state.maker.get(), number));
            CHECK.due(argument.call + " of " + number + " in " + state.name + " is out of range",
                false, () -> answer.equals(Check.ARGUMENT));
        }
    }

    // "IllegalArgumentException is thrown for an argument out of range"
    private static void outsideOfItsRange(State state, Argument argument) {
        for (int number : Check.outside(argument.low, argument.high)) {
            refused(state, argument.call + " of " + number, Check.ARGUMENT,
                lab -> argument.answer.apply(lab, number));
        }
    }

    /** Any int may be asked for as a touch: those that are not there are no wrong arguments. */
    private static void touchesThatAreNot(State state) {
        int touches = state.maker.get().touches();
        for (int number : Check.outside(0, touches - 1)) {
            refused(state, "6: pageOf(" + number + ")", Check.NO_ELEMENT, lab -> lab.pageOf(number));
            refused(state, "20: workingSet(" + number + ")", Check.NO_ELEMENT,
                lab -> lab.workingSet(number));
        }
        for (int number : new int[] {0, 1, touches - 2, touches - 1}) {
            if (number >= 0 && number < touches) {
                String page = Check.answerOf(() -> state.maker.get().pageOf(number));
                CHECK.due("6: pageOf(" + number + ") in " + state.name + " throws", false,
                    () -> page.startsWith("throws"));
                String size = Check.answerOf(() -> state.maker.get().workingSet(number));
                CHECK.due("20: workingSet(" + number + ") in " + state.name + " throws", false,
                    () -> size.startsWith("throws"));
            }
        }
    }

    private static void twoArgumentsOutsideOfTheirRanges() {
        int[][] begins = {{0, 0}, {0, 101}, {17, 0}, {17, 101},
            {Integer.MIN_VALUE, Integer.MIN_VALUE}, {Integer.MAX_VALUE, Integer.MAX_VALUE}};
        for (int[] two : begins) {
            refusedEverywhere("2: begin(" + two[0] + ", " + two[1] + ")", Check.ARGUMENT,
                lab -> lab.begin(two[0], two[1]));
        }
        int[][] holds = {{-1, -1}, {-1, 64}, {4, -1}, {4, 64},
            {Integer.MIN_VALUE, Integer.MAX_VALUE}, {Integer.MAX_VALUE, Integer.MIN_VALUE}};
        for (int[] two : holds) {
            refusedEverywhere("8: holds(" + two[0] + ", " + two[1] + ")", Check.ARGUMENT,
                lab -> lab.holds(two[0], two[1]));
        }
    }

    private static void runsThatLeaveThePages() {
        int low = Integer.MIN_VALUE;
        int high = Integer.MAX_VALUE;
        int[][] runs = {
            // The last page alone is outside.
            {1, 1, 64}, {62, -1, 64}, {0, 32, 3}, {63, -32, 3}, {1, 63, 2}, {62, -63, 2},
            {63, 1, 2}, {0, -1, 2},
            // The first page alone is outside.
            {-1, 1, 2}, {-1, 1, 64}, {64, -1, 2}, {64, -1, 64}, {-1, 63, 2}, {64, -63, 2},
            {-63, 63, 2}, {126, -63, 2},
            // More than one page is outside, but not the first, or not the last.
            {0, 63, 64}, {63, -63, 64}, {-63 * 63, 63, 64}, {63 * 64, -63, 64},
            // Sums and products of the arguments go beyond the largest int.
            {high, 63, 64}, {high, 1, 64}, {low, -63, 64}, {low, -1, 2}, {low, 63, 64},
            {0, high, 64}, {0, low, 64}, {0, high, high}, {0, low, low}, {1 << 26, 63, 64},
            {0, 1, high}, {0, 0, low}, {high, high, high}, {low, low, low}, {0, 1 << 26, 64},
        };
        for (int[] run : runs) {
            refusedEverywhere("4: touchRun(" + run[0] + ", " + run[1] + ", " + run[2] + ")",
                Check.ARGUMENT, lab -> lab.touchRun(run[0], run[1], run[2]));
        }
    }

    // "IllegalStateException if something is not possible now"
    private static void moreThan400Touches() {
        for (int page : new int[] {0, 62, 63}) {
            refused(State.FULL, "3: touch(" + page + ")", Check.STATE, lab -> lab.touch(page));
        }
        for (int count : new int[] {1, 2, 64}) {
            refused(State.FULL, "4: touchRun(62, 0, " + count + ")", Check.STATE,
                lab -> lab.touchRun(62, 0, count));
        }
        for (int count : new int[] {2, 3, 64}) {
            refused(State.NEARLY_FULL, "4: touchRun(0, 1, " + count + ")", Check.STATE,
                lab -> lab.touchRun(0, 1, count));
        }
        CHECK.due("3: the 400th touch", 0, () -> State.NEARLY_FULL.maker.get().touch(62));
        CHECK.due("4: the 400th touch", 0, () -> State.NEARLY_FULL.maker.get().touchRun(62, 0, 1));
    }

    // "NoSuchElementException if there is no such thing"
    private static void noSuchThingInAnEmptyLaboratory() {
        for (State state : List.of(State.EMPTY, State.EMPTY_AGAIN)) {
            for (int policy = 0; policy < 4; policy++) {
                int asked = policy;
                refused(state, "10: victim(" + policy + ")", Check.NO_ELEMENT,
                    lab -> lab.victim(asked));
                refused(state, "24: ratio(" + policy + ")", Check.NO_ELEMENT,
                    lab -> lab.ratio(asked));
            }
            for (int page = 0; page < 64; page++) {
                int asked = page;
                refused(state, "19: refaultDistance(" + page + ")", Check.NO_ELEMENT,
                    lab -> lab.refaultDistance(asked));
            }
            refused(state, "6: pageOf(0)", Check.NO_ELEMENT, lab -> lab.pageOf(0));
            refused(state, "20: workingSet(0)", Check.NO_ELEMENT, lab -> lab.workingSet(0));
            refused(state, "21: averageWorkingSet()", Check.NO_ELEMENT,
                Swapmere::averageWorkingSet);
        }
    }

    private static void noSuchThingInAnotherLaboratory() {
        for (int policy = 0; policy < 4; policy++) {
            int asked = policy;
            refused(State.EMPTY_FRAMES, "10: victim(" + policy + ")", Check.NO_ELEMENT,
                lab -> lab.victim(asked));
        }
        // Pages 7 and 63 have been held once or never, so that there was no refault on them.
        refused(State.IN_USE, "19: refaultDistance(7)", Check.NO_ELEMENT,
            lab -> lab.refaultDistance(7));
        refused(State.IN_USE, "19: refaultDistance(63)", Check.NO_ELEMENT,
            lab -> lab.refaultDistance(63));
    }

    // "If several apply, IllegalArgumentException goes first, then IllegalStateException."
    private static void argumentsGoFirst() {
        for (int page : Check.outside(0, 63)) {
            first(State.FULL, "3: touch(" + page + ") too many", lab -> lab.touch(page));
            first(State.FULL, "4: touchRun(" + page + ", 0, 1) too many",
                lab -> lab.touchRun(page, 0, 1));
            first(State.EMPTY, "19: refaultDistance(" + page + ") without touches",
                lab -> lab.refaultDistance(page));
        }
        for (int step : Check.outside(-63, 63)) {
            first(State.FULL, "4: touchRun(0, " + step + ", 1) too many",
                lab -> lab.touchRun(0, step, 1));
        }
        for (int count : Check.outside(1, 64)) {
            first(State.FULL, "4: touchRun(0, 0, " + count + ") too many",
                lab -> lab.touchRun(0, 0, count));
        }
        first(State.FULL, "4: a last page outside, and too many", lab -> lab.touchRun(63, 1, 2));
        first(State.NEARLY_FULL, "4: a last page outside, and one too many",
            lab -> lab.touchRun(0, -1, 2));
        for (int policy : Check.outside(0, 3)) {
            first(State.EMPTY, "10: victim(" + policy + ") with none to evict",
                lab -> lab.victim(policy));
            first(State.EMPTY, "24: ratio(" + policy + ") without touches",
                lab -> lab.ratio(policy));
        }
    }

    private static void first(State state, String what, Function<Swapmere, Object> call) {
        refused(state, what, Check.ARGUMENT, call::apply);
    }

    private static void refusedEverywhere(String what, String want, Consumer<Swapmere> call) {
        for (State state : State.ALL) {
            refused(state, what, want, call);
        }
    }

    // "A call that throws an exception changes nothing."
    private static void refused(State state, String what, String want, Consumer<Swapmere> call) {
        String where = what + " in " + state.name;
        CHECK.dueOf(where, want, () -> call.accept(state.maker.get()));
        CHECK.due(where + " leaves all answers as they were", true,
            () -> state.isLeftAsItWasBy(call));
    }
}
