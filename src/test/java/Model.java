import java.util.ArrayList;
import java.util.LinkedHashSet;
import java.util.LinkedList;
import java.util.List;
import java.util.Set;

/**
 * The document's terms written down once more, as plainly as they stand there: it keeps the
 * touches alone and goes through them anew for every question.
 */
final class Model {
    final int frames;
    final int window;
    final List<Integer> touches = new ArrayList<>();

    Model(int frames, int window) {
        this.frames = frames;
        this.window = window;
    }

    Recency recency(int frameCount) {
        Recency policy = new Recency(frameCount);
        touches.forEach(policy::touch);
        return policy;
    }

    Clock clock() {
        Clock policy = new Clock(frames);
        touches.forEach(policy::touch);
        return policy;
    }

    Adaptive adaptive() {
        Adaptive policy = new Adaptive(frames);
        touches.forEach(policy::touch);
        return policy;
    }

    Strides strides() {
        Strides policy = new Strides(frames);
        touches.forEach(policy::touch);
        return policy;
    }

    int workingSet(int touch) {
        return Set.copyOf(touches.subList(Math.max(0, touch - window + 1), touch + 1)).size();
    }

    float averageWorkingSet() {
        int sum = 0;
        for (int touch = 0; touch < touches.size(); touch++) {
            sum += workingSet(touch);
        }
        return (float) sum / (float) touches.size();
    }

    int bestFaults(int frameCount) {
        Set<Integer> held = new LinkedHashSet<>();
        int faults = 0;
        for (int touch = 0; touch < touches.size(); touch++) {
            if (held.contains(touches.get(touch))) {
                continue;
            }
            faults++;
            if (held.size() == frameCount) {
                held.remove(farthest(held, touches.subList(touch + 1, touches.size())));
            }
            held.add(touches.get(touch));
        }
        return faults;
    }

    private static Integer farthest(Set<Integer> held, List<Integer> future) {
        Integer found = null;
        for (Integer page : held) {
            if (!future.contains(page)) {
                return page;
            }
            if (found == null || future.indexOf(page) > future.indexOf(found)) {
                found = page;
            }
        }
        return found;
    }

    static final class Recency {
        final int frames;
        final List<Integer> evictions = new ArrayList<>();
        final List<int[]> refaults = new ArrayList<>();
        final List<Integer> order = new LinkedList<>();
        int faults = 0;

        Recency(int frames) {
            this.frames = frames;
        }

        boolean touch(Integer page) {
            boolean fault = !order.remove(page);
            if (fault) {
                faults++;
                if (evictions.contains(page)) {
                    int behind = evictions.size() - 1 - evictions.lastIndexOf(page);
                    refaults.add(new int[] {page, behind});
                }
                if (order.size() == frames) {
                    evictions.add(order.remove(0));
                }
            }
            order.add(page);
            return fault;
        }

        int victim() {
            return order.size() == frames ? order.get(0) : -1;
        }

        int refaultsUpTo(int distance) {
            return (int) refaults.stream().filter(one -> one[1] <= distance).count();
        }

        int latestDistance(int page) {
            int distance = -1;
            for (int[] one : refaults) {
                distance = one[0] == page ? one[1] : distance;
            }
            return distance;
        }
    }

    static final class Clock {
        final int frames;
        final List<Integer> pages = new ArrayList<>();
        final List<Boolean> bits = new ArrayList<>();
        int hand = 0;
        int faults = 0;

        Clock(int frames) {
            this.frames = frames;
        }

        boolean touch(Integer page) {
            if (pages.contains(page)) {
                bits.set(pages.indexOf(page), true);
                return false;
            }
            faults++;
            if (pages.size() < frames) {
                pages.add(page);
                bits.add(true);
                return true;
            }
            while (bits.get(hand)) {
                bits.set(hand, false);
                hand = (hand + 1) % frames;
            }
            pages.set(hand, page);
            bits.set(hand, true);
            hand = (hand + 1) % frames;
            return true;
        }

        /** Touches a page that is none of the 64, and sees which one is gone. */
        int victim() {
            List<Integer> before = new ArrayList<>(pages);
            touch(1000);
            before.removeAll(pages);
            return before.isEmpty() ? -1 : before.get(0);
        }

        boolean bit(int page) {
            return pages.contains(page) && bits.get(pages.indexOf(page));
        }
    }

    static final class Adaptive {
        final int m;
        final List<LinkedList<Integer>> lists = List.of(new LinkedList<>(), new LinkedList<>(),
            new LinkedList<>(), new LinkedList<>());
        final LinkedList<Integer> t1 = lists.get(0);
        final LinkedList<Integer> t2 = lists.get(1);
        final LinkedList<Integer> b1 = lists.get(2);
        final LinkedList<Integer> b2 = lists.get(3);
        int target = 0;
        int faults = 0;

        Adaptive(int frames) {
            m = frames;
        }

        boolean holds(int page) {
            return t1.contains(page) || t2.contains(page);
        }

        boolean touch(Integer page) {
            boolean fault = !holds(page);
            faults += fault ? 1 : 0;
            int all = t1.size() + t2.size() + b1.size() + b2.size();
            if (!fault) {
                move(page, t2);
            } else if (b1.contains(page)) {
                target += Math.max(1, b2.size() / b1.size());
                target = target > m ? m : target;
                replace(page);
                move(page, t2);
            } else if (b2.contains(page)) {
                target -= Math.max(1, b1.size() / b2.size());
                target = target < 0 ? 0 : target;
                replace(page);
                move(page, t2);
            } else {
                if (t1.size() + b1.size() == m) {
                    if (t1.size() == m) {
                        t1.removeFirst();
                    } else {
                        b1.removeFirst();
                        replace(page);
                    }
                } else if (all >= m) {
                    if (all == 2 * m) {
                        b2.removeFirst();
                    }
                    replace(page);
                }
                t1.addLast(page);
            }
            return fault;
        }

        private void move(Integer page, LinkedList<Integer> list) {
            lists.forEach(one -> one.remove(page));
            list.addLast(page);
        }

        private void replace(Integer touched) {
            if (!t1.isEmpty()
                && (t1.size() > target || b2.contains(touched) && t1.size() == target)) {
                b1.addLast(t1.removeFirst());
            } else {
                b2.addLast(t2.removeFirst());
            }
        }

        int listOf(int page) {
            for (int list = 1; list <= 4; list++) {
                if (lists.get(list - 1).contains(page)) {
                    return list;
                }
            }
            return 0;
        }

        /** Touches a page that is none of the 64, and sees which one is held no more. */
        int victim() {
            List<Integer> before = new ArrayList<>(t1);
            before.addAll(t2);
            touch(1000);
            before.removeIf(this::holds);
            return before.isEmpty() ? -1 : before.get(0);
        }
    }

    static final class Strides {
        final int m;
        final List<Integer> order = new LinkedList<>();
        final Set<Integer> notYetTouched = new LinkedHashSet<>();
        final List<Integer> seen = new ArrayList<>();
        int faults = 0;
        int prefetches = 0;
        int useful = 0;

        Strides(int frames) {
            m = frames;
        }

        boolean touch(Integer page) {
            boolean fault = !order.contains(page);
            faults += fault ? 1 : 0;
            useful += notYetTouched.remove(page) ? 1 : 0;
            use(page);
            seen.add(page);
            int n = seen.size();
            if (n >= 3) {
                int d = seen.get(n - 1) - seen.get(n - 2);
                Integer next = page + d;
                if (d == seen.get(n - 2) - seen.get(n - 3) && d != 0 && next >= 0 && next <= 63
                    && !order.contains(next) && m >= 2) {
                    use(next);
                    notYetTouched.add(next);
                    prefetches++;
                }
            }
            return fault;
        }

        private void use(Integer page) {
            if (!order.remove(page) && order.size() == m) {
                notYetTouched.remove(order.remove(0));
            }
            order.add(page);
        }

        int victim() {
            return order.size() == m ? order.get(0) : -1;
        }
    }
}
