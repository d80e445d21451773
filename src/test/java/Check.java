/** Compares answers with those that are due, and ends with exit code 1 if one was wrong. */
final class Check {
    static final String ARGUMENT = "throws IllegalArgumentException";
    static final String STATE = "throws IllegalStateException";
    static final String NO_ELEMENT = "throws NoSuchElementException";

    /** Numbers just outside a range, and far outside of it. */
    static int[] outside(int low, int high) {
        return new int[] {low - 1, high + 1, Integer.MIN_VALUE, Integer.MAX_VALUE, low - 1000, high + 1000};
    }

    interface Call {
        Object answer();
    }

    interface Action {
        void act();
    }

    private final String name;
    private int made = 0;
    private int wrong = 0;

    Check(String name) {
        this.name = name;
    }

    static String answerOf(Call call) {
        try {
            return String.valueOf(call.answer());
        } catch (RuntimeException e) {
            return "throws " + e.getClass().getSimpleName();
        }
    }

    static String answerOf(Action action) {
        return answerOf(() -> {
            action.act();
            return "done";
        });
    }

    void due(String what, Object want, Call call) {
        made++;
        String got = answerOf(call);
        if (!got.equals(String.valueOf(want))) {
            wrong++;
            System.out.println(name + ": " + what + " answered " + got + ", due is " + want);
        }
    }

    void dueOf(String what, Object want, Action action) {
        due(what, want, () -> {
            action.act();
            return "done";
        });
    }

    void end() {
        System.out.println(name + ": " + made + " answers, " + wrong + " wrong");
        if (wrong != 0 || made == 0) {
            System.exit(1);
        }
    }
}
