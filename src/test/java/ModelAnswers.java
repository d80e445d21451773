/** The answers that a Model gives to the calls of the face, exceptions as texts. */
final class ModelAnswers {
    private Model model = new Model(4, 8);

    int count() {
        return model.touches.size();
    }

    Object begin(int frames, int window) {
        if (outside(frames, 1, 16) || outside(window, 1, 100)) {
            return Check.ARGUMENT;
        }
        model = new Model(frames, window);
        return "done";
    }

    Object touch(int page) {
        if (outside(page, 0, 63)) {
            return Check.ARGUMENT;
        }
        if (count() >= 400) {
            return Check.STATE;
        }
        int answer = 0;
        answer += model.recency(model.frames).touch(page) ? 1 : 0;
        answer += model.clock().touch(page) ? 2 : 0;
        answer += model.adaptive().touch(page) ? 4 : 0;
        answer += model.strides().touch(page) ? 8 : 0;
        model.touches.add(page);
        return answer;
    }

    Object touchRun(int first, int step, int count) {
        if (outside(step, -63, 63) || outside(count, 1, 64)) {
            return Check.ARGUMENT;
        }
        for (long i = 0; i < count; i++) {
            if (first + step * i < 0 || first + step * i > 63) {
                return Check.ARGUMENT;
            }
        }
        if (count() + count > 400) {
            return Check.STATE;
        }
        int before = model.recency(model.frames).faults;
        for (int i = 0; i < count; i++) {
            model.touches.add(first + step * i);
        }
        return model.recency(model.frames).faults - before;
    }

    Object pageOf(int touch) {
        return outside(touch, 0, count() - 1) ? Check.NO_ELEMENT : model.touches.get(touch);
    }

    Object faults(int policy) {
        switch (policy) {
            case 0:
                return model.recency(model.frames).faults;
            case 1:
                return model.clock().faults;
            case 2:
                return model.adaptive().faults;
            case 3:
                return model.strides().faults;
            default:
                return Check.ARGUMENT;
        }
    }

    Object holds(int policy, int page) {
        if (outside(page, 0, 63) || outside(policy, 0, 3)) {
            return Check.ARGUMENT;
        }
        switch (policy) {
            case 0:
                return model.recency(model.frames).order.contains(page);
            case 1:
                return model.clock().pages.contains(page);
            case 2:
                return model.adaptive().holds(page);
            default:
                return model.strides().order.contains(page);
        }
    }

    Object held(int policy) {
        if (outside(policy, 0, 3)) {
            return Check.ARGUMENT;
        }
        int held = 0;
        for (int page = 0; page < 64; page++) {
            held += holds(policy, page).equals(true) ? 1 : 0;
        }
        return held;
    }

    Object victim(int policy) {
        switch (policy) {
            case 0:
                return orNone(model.recency(model.frames).victim());
            case 1:
                return orNone(model.clock().victim());
            case 2:
                return orNone(model.adaptive().victim());
            case 3:
                return orNone(model.strides().victim());
            default:
                return Check.ARGUMENT;
        }
    }

    Object hand() {
        return model.clock().hand;
    }

    Object isReferenced(int page) {
        return outside(page, 0, 63) ? Check.ARGUMENT : (Object) model.clock().bit(page);
    }

    Object listOf(int page) {
        return outside(page, 0, 63) ? Check.ARGUMENT : (Object) model.adaptive().listOf(page);
    }

    Object listSize(int list) {
        return outside(list, 1, 4) ? Check.ARGUMENT
            : (Object) model.adaptive().lists.get(list - 1).size();
    }

    Object target() {
        return model.adaptive().target;
    }

    Object prefetches() {
        return model.strides().prefetches;
    }

    Object usefulPrefetches() {
        return model.strides().useful;
    }

    Object refaults(int distance) {
        return outside(distance, 0, 400) ? Check.ARGUMENT
            : (Object) model.recency(model.frames).refaultsUpTo(distance);
    }

    Object refaultDistance(int page) {
        return outside(page, 0, 63) ? Check.ARGUMENT
            : orNone(model.recency(model.frames).latestDistance(page));
    }

    Object workingSet(int touch) {
        return outside(touch, 0, count() - 1) ? Check.NO_ELEMENT : (Object) model.workingSet(touch);
    }

    Object averageWorkingSet() {
        return count() == 0 ? Check.NO_ELEMENT : (Object) model.averageWorkingSet();
    }

    Object faultsWith(int frames) {
        return outside(frames, 1, 16) ? Check.ARGUMENT : (Object) model.recency(frames).faults;
    }

    Object bestFaults(int frames) {
        return outside(frames, 1, 16) ? Check.ARGUMENT : (Object) model.bestFaults(frames);
    }

    Object ratio(int policy) {
        if (outside(policy, 0, 3)) {
            return Check.ARGUMENT;
        }
        if (count() == 0) {
            return Check.NO_ELEMENT;
        }
        float faults = (Integer) faults(policy);
        return faults / model.bestFaults(model.frames);
    }

    private static boolean outside(int number, int low, int high) {
        return number < low || number > high;
    }

    private static Object orNone(int number) {
        return number < 0 ? Check.NO_ELEMENT : (Object) number;
    }
}
