/** How things stand on an object, as a text: by asking alone, or by undoing and going back as well. */
final class State {
    private State() {
    }

    /** All counts, stones, steps, the fault and the told row's place: some 100 calls at most. */
    static String all(FloorOfProofs x) {
        StringBuilder state = new StringBuilder(counts(x));
        int stones = x.count(0);
        for (int s = 0; s < stones; s++) {
            state.append(" stone");
            for (int what = 0; what < 5; what++) {
                state.append(' ').append(x.stone(s, what));
            }
        }
        int steps = x.count(1);
        for (int t = 0; t < steps; t++) {
            state.append(" step");
            for (int what = 0; what < 4; what++) {
                state.append(' ').append(x.step(t, what));
            }
        }
        return state.append(" fault ").append(x.fault()).append(" judge ").append(x.judge()).toString();
    }

    /** As all(), then what comes by undo() and back(), as long as they can be: with 4 stones, some 400 calls at most. */
    static String unveiled(FloorOfProofs x) {
        StringBuilder state = new StringBuilder(all(x));
        for (int left = 0; left >= 0; ) {
            left = x.undo();
            state.append(" undo ").append(left).append(some(x));
        }
        for (int left = 0; left >= 0; ) {
            left = x.back();
            state.append(" back ").append(left).append(some(x));
        }
        return state.toString();
    }

    private static String counts(FloorOfProofs x) {
        StringBuilder state = new StringBuilder("count");
        for (int what = 0; what < 8; what++) {
            state.append(' ').append(x.count(what));
        }
        return state.toString();
    }

    private static String some(FloorOfProofs x) {
        StringBuilder state = new StringBuilder(counts(x));
        int stones = x.count(0);
        for (int s = 0; s < stones; s++) {
            state.append(" stone ").append(x.stone(s, 0)).append(x.stone(s, 1)).append(' ').append(x.stone(s, 3));
        }
        int last = x.count(1) - 1;
        return state.append(" step ").append(x.step(last, 0)).append(x.step(last, 2)).toString();
    }
}
