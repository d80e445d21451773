/** Short ways to bring a laboratory into a state. */
final class Touching {
    private Touching() {
    }

    static Swapmere with(int frames, int window, int... pages) {
        Swapmere lab = new Swapmere();
        lab.begin(frames, window);
        touchAll(lab, pages);
        return lab;
    }

    static void touchAll(Swapmere lab, int... pages) {
        for (int page : pages) {
            lab.touch(page);
        }
    }

    static void touchTimes(Swapmere lab, int page, int times) {
        for (int i = 0; i < times; i++) {
            lab.touch(page);
        }
    }

    /** All that a laboratory answers, so that two states can be compared. */
    static String stateOf(Swapmere lab) {
        StringBuilder all = new StringBuilder();
        note(all, "touches", lab::touches);
        note(all, "hand", lab::hand);
        note(all, "target", lab::target);
        note(all, "prefetches", lab::prefetches);
        note(all, "usefulPrefetches", lab::usefulPrefetches);
        note(all, "averageWorkingSet", lab::averageWorkingSet);
        for (int policy = 0; policy < 4; policy++) {
            notePolicy(all, lab, policy);
        }
        for (int page = 0; page < 64; page++) {
            notePage(all, lab, page);
        }
        for (int list = 1; list <= 4; list++) {
            int asked = list;
            note(all, "listSize " + list, () -> lab.listSize(asked));
        }
        for (int frames = 1; frames <= 16; frames++) {
            int asked = frames;
            note(all, "faultsWith " + frames, () -> lab.faultsWith(asked));
            note(all, "bestFaults " + frames, () -> lab.bestFaults(asked));
        }
        for (int number = 0; number <= 400; number++) {
            int asked = number;
            note(all, "pageOf " + number, () -> lab.pageOf(asked));
            note(all, "workingSet " + number, () -> lab.workingSet(asked));
            note(all, "refaults " + number, () -> lab.refaults(asked));
        }
        return all.toString();
    }

    private static void notePolicy(StringBuilder all, Swapmere lab, int policy) {
        note(all, "faults " + policy, () -> lab.faults(policy));
        note(all, "held " + policy, () -> lab.held(policy));
        note(all, "victim " + policy, () -> lab.victim(policy));
        note(all, "ratio " + policy, () -> lab.ratio(policy));
        for (int page = 0; page < 64; page++) {
            int asked = page;
            note(all, "holds " + policy + " " + page, () -> lab.holds(policy, asked));
        }
    }

    private static void notePage(StringBuilder all, Swapmere lab, int page) {
        note(all, "isReferenced " + page, () -> lab.isReferenced(page));
        note(all, "listOf " + page, () -> lab.listOf(page));
        note(all, "refaultDistance " + page, () -> lab.refaultDistance(page));
    }

    private static void note(StringBuilder all, String what, Check.Call call) {
        String answer = Check.answerOf(call);
        if (answer.startsWith("throws ") && !answer.equals(Check.NO_ELEMENT)) {
            throw new AssertionError(what + " " + answer);
        }
        all.append(what).append(": ").append(answer).append('\n');
    }
}
