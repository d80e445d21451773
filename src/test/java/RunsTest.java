import java.util.Random;

/** All promises: long runs of calls of all kinds, each answer compared with that of a Model. */
public final class RunsTest {
    private static final Check CHECK = new Check("RunsTest");
    private static final int RUNS = 250;
    private static final int CALLS = 512;

    private final Random random;
    private final Swapmere lab = new Swapmere();
    private final ModelAnswers due = new ModelAnswers();
    private final int run;
    private final int kinds;
    private int call = 0;

    private RunsTest(int run) {
        this.run = run;
        random = new Random(run);
        // Few kinds of pages bring hits and ghosts, many bring evictions.
        kinds = 2 + random.nextInt(run % 3 == 0 ? 62 : 24);
    }

    public static void main(String[] args) {
        for (int run = 0; run < RUNS; run++) {
            new RunsTest(run).go();
        }
        CHECK.end();
    }

    private void go() {
        if (run % 5 != 0) {
            begin();
            call++;
        }
        for (; call < CALLS; call++) {
            int choice = random.nextInt(100);
            if (choice == 0 && run % 2 == 0 && random.nextInt(3) == 0) {
                begin();
            } else if (choice < 55) {
                touch();
            } else if (choice < 60) {
                touchRun();
            } else {
                ask(random.nextInt(22));
            }
        }
    }

    private void begin() {
        int frames = near(1, 1 + random.nextInt(16));
        int window = near(1, 1 + random.nextInt(100));
        same("begin(" + frames + ", " + window + ")", due.begin(frames, window),
            () -> {
                lab.begin(frames, window);
                return "done";
            });
    }

    private void touch() {
        int page = random.nextInt(40) == 0 ? near(0, 63) : random.nextInt(kinds);
        same("touch(" + page + ")", due.touch(page), () -> lab.touch(page));
    }

    private void touchRun() {
        int first = near(0, 63);
        int step = random.nextInt(3) == 0 ? near(-63, 63) : random.nextInt(7) - 3;
        int count = random.nextInt(5) == 0 ? near(1, 64) : 1 + random.nextInt(8);
        same("touchRun(" + first + ", " + step + ", " + count + ")",
            due.touchRun(first, step, count), () -> lab.touchRun(first, step, count));
    }

    /** A number in a range, its ends more often, and seldom one outside of it. */
    private int near(int low, int high) {
        int choice = random.nextInt(40);
        if (choice == 0) {
            return random.nextInt();
        }
        if (choice < 4) {
            return low - 1 + random.nextInt(2);
        }
        if (choice < 7) {
            return high + random.nextInt(2);
        }
        return low + random.nextInt(high - low + 1);
    }

    private void ask(int question) {
        int policy = near(0, 3);
        int page = random.nextInt(4) == 0 ? near(0, 63) : random.nextInt(kinds);
        if (question < 8) {
            askPolicy(question, policy, page);
        } else if (question < 13) {
            askAdaptive(question, page);
        } else {
            askHistory(question, policy, page);
        }
    }

    private void askPolicy(int question, int policy, int page) {
        switch (question) {
            case 0:
                same("faults(" + policy + ")", due.faults(policy), () -> lab.faults(policy));
                break;
            case 1:
            case 2:
                same("holds(" + policy + ", " + page + ")", due.holds(policy, page),
                    () -> lab.holds(policy, page));
                break;
            case 3:
                same("held(" + policy + ")", due.held(policy), () -> lab.held(policy));
                break;
            case 4:
            case 5:
                same("victim(" + policy + ")", due.victim(policy), () -> lab.victim(policy));
                break;
            case 6:
                same("hand()", due.hand(), lab::hand);
                break;
            default:
                same("isReferenced(" + page + ")", due.isReferenced(page),
                    () -> lab.isReferenced(page));
                break;
        }
    }

    private void askAdaptive(int question, int page) {
        int list = near(1, 4);
        switch (question) {
            case 8:
                same("listOf(" + page + ")", due.listOf(page), () -> lab.listOf(page));
                break;
            case 9:
                same("listSize(" + list + ")", due.listSize(list), () -> lab.listSize(list));
                break;
            case 10:
                same("target()", due.target(), lab::target);
                break;
            case 11:
                same("prefetches()", due.prefetches(), lab::prefetches);
                break;
            default:
                same("usefulPrefetches()", due.usefulPrefetches(), lab::usefulPrefetches);
                break;
        }
    }

    private void askHistory(int question, int policy, int page) {
        int distance = random.nextBoolean() ? random.nextInt(40) : near(0, 400);
        int touch = near(0, Math.max(0, due.count() - 1));
        int frames = near(1, 16);
        switch (question) {
            case 13:
                same("refaults(" + distance + ")", due.refaults(distance),
                    () -> lab.refaults(distance));
                break;
            case 14:
                same("refaultDistance(" + page + ")", due.refaultDistance(page),
                    () -> lab.refaultDistance(page));
                break;
            case 15:
                same("workingSet(" + touch + ")", due.workingSet(touch),
                    () -> lab.workingSet(touch));
                break;
            case 16:
                same("averageWorkingSet()", due.averageWorkingSet(), lab::averageWorkingSet);
                break;
            case 17:
                same("faultsWith(" + frames + ")", due.faultsWith(frames),
                    () -> lab.faultsWith(frames));
                break;
            case 18:
                same("bestFaults(" + frames + ")", due.bestFaults(frames),
                    () -> lab.bestFaults(frames));
                break;
            case 19:
                same("ratio(" + policy + ")", due.ratio(policy), () -> lab.ratio(policy));
                break;
            case 20:
                same("pageOf(" + touch + ")", due.pageOf(touch), () -> lab.pageOf(touch));
                break;
            default:
                same("touches()", due.count(), lab::touches);
                break;
        }
    }

    private void same(String what, Object want, Check.Call asked) {
        CHECK.due("run " + run + ", call " + call + ": " + what, want, asked);
    }
}
