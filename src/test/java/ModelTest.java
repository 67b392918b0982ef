/** Long runs of drawn calls, the same ones each time: the class answers as the model does. */
public final class ModelTest {
    private static final int RUNS = 100;
    private static final int CALLS = 512;
    private static final int MOST_FOR_A_TEXT = 45;

    private final Draws draws;
    private final FloorOfProofs x = new FloorOfProofs();
    private final Model model = new Model();
    private final int run;
    private int used = 0;

    /** Draws from a number by a rule that is always the same. */
    private static final class Draws {
        private long state;

        Draws(long seed) {
            state = seed * 0x9E3779B97F4A7C15L + 1;
        }

        int below(int bound) {
            state = state * 6364136223846793005L + 1442695040888963407L;
            return (int) ((state >>> 33) % bound);
        }

        boolean oneOf(int many) {
            return below(many) == 0;
        }
    }

    private ModelTest(int run) {
        this.run = run;
        this.draws = new Draws(run);
    }

    public static void main(String[] args) {
        for (int run = 0; run < RUNS; run++) {
            new ModelTest(run).calls();
        }
        Due.end("ModelTest");
    }

    private void calls() {
        if (!draws.oneOf(12)) {
            newText();
        }
        while (used < CALLS) {
            if (draws.oneOf(90) && used <= CALLS - MOST_FOR_A_TEXT) {
                newText();
            } else {
                call(draws.below(64));
            }
        }
    }

    private void due(String call, long got, long want) {
        used++;
        Due.due("run " + run + ": " + call, got, want);
    }

    private void newText() {
        String text = drawText();
        due("wipe()", x.wipe(), model.wipe());
        for (int place = 0; place < text.length(); ) {
            int n = Math.min(8, text.length() - place);
            long v = draws.oneOf(2) ? -1 : 0;
            for (int i = 0; i < n; i++) {
                v = v << 8 | text.charAt(place + i);
            }
            due("write(" + n + ", " + v + ")", x.write(n, v), model.write(n, v));
            place += n;
        }
        due("fault() of " + text, x.fault(), model.fault());
        due("layFloor() of " + text, x.layFloor(), model.layFloor());
    }

    private String drawText() {
        StringBuilder text = new StringBuilder();
        int stones = draws.oneOf(4) ? 4 : 3 + draws.below(8);
        if (stones != 4 || draws.oneOf(2)) {
            text.append('n').append(stones).append(';');
        }
        boolean forth = draws.oneOf(2);
        int steps = 1 + draws.below(10);
        for (int i = 0; i < 1 + draws.below(5); i++) {
            text.append('a').append(draws.below(draws.oneOf(2) ? stones : 3)).append(';');
        }
        for (int i = 0; i < steps; i++) {
            int c = forth ? 1 + draws.below(stones - 1) : draws.below(stones);
            int a = draws.below(forth ? c : stones);
            int b = draws.oneOf(2) ? a : draws.below(forth ? c : stones);
            if (a != c && b != c || draws.oneOf(40)) {
                text.append('t').append(a).append(',').append(b).append(',').append(c).append(';');
            }
            if (draws.oneOf(4)) {
                text.append('x').append(draws.below(stones)).append(',').append(stones - 1).append(';');
            }
            if (draws.oneOf(8)) {
                text.append('w').append(draws.below(stones)).append(',').append(draws.below(101)).append(';');
            }
        }
        if (draws.oneOf(6)) {
            int place = draws.below(text.length());
            text.setCharAt(place, "natxw0149,; \u00ff\u0000:/".charAt(draws.below(16)));
        }
        if (draws.oneOf(20)) {
            text.setLength(draws.below(text.length() + 1));
        }
        return text.toString();
    }

    /** A number mostly from 0 to below the bound, at times beside these. */
    private int near(int bound) {
        if (draws.oneOf(150)) {
            int[] far = {Integer.MIN_VALUE, Integer.MAX_VALUE, -1000, 1000, 1 << 16, 31, 32, 64};
            return far[draws.below(far.length)];
        }
        return draws.oneOf(12) ? draws.below(bound + 3) - 1 : draws.below(bound);
    }

    private void call(int kind) {
        int stones = model.count(0);
        int s = near(stones);
        int t = near(model.count(1));
        int what = near(3);
        int set = near(1 << stones);
        switch (kind < 31 ? kind : kind < 48 ? 6 + kind % 5 : 11 + kind % 13) {
            case 0, 5 -> due("stone(" + s + ", " + what + ")", x.stone(s, what), model.stone(s, what));
            case 1 -> due("step(" + t + ", " + what + ")", x.step(t, what), model.step(t, what));
            case 2 -> due("count(" + t + ")", x.count(t), model.count(t));
            case 3 -> due("fault()", x.fault(), model.fault());
            case 4 -> {
                int n = near(9);
                due("write(" + n + ", " + set + ")", x.write(n, set), model.write(n, set));
            }
            case 6, 10 -> due("go(" + t + ")", x.go(t), model.go(t));
            case 7 -> takeOutAtTimes(s);
            case 8 -> {
                int b = draws.oneOf(2) ? s : near(stones);
                int c = near(stones);
                due("lay(" + s + ", " + b + ", " + c + ")", x.lay(s, b, c), model.lay(s, b, c));
            }
            case 9 -> due("undo()", x.undo(), model.undo());
            case 11 -> due("reach(" + set + ")", x.reach(set), model.reach(set));
            case 12 -> due("walk(" + s + ", " + what + ")", x.walk(s, what), model.walk(s, what));
            case 13 -> due("round(" + s + ")", x.round(s), model.round(s));
            case 14 -> due("needs(" + s + ", " + what + ")", x.needs(s, what), model.needs(s, what));
            case 15 -> due("lost(" + s + ")", x.lost(s), model.lost(s));
            case 16 -> due("begin(" + s + ")", x.begin(s), model.begin(s));
            case 17 -> due("hall(" + what + ")", x.hall(what), model.hall(what));
            case 18 -> due("rope()", x.rope(), model.rope());
            case 19 -> due("idle()", x.idle(), model.idle());
            case 20 -> due("circle()", x.circle(), model.circle());
            case 21 -> due("deep()", x.deep(), model.deep());
            case 22 -> due("proofs(" + s + ", " + what + ")", x.proofs(s, what), model.proofs(s, what));
            case 23 -> due("worn(" + s + ", " + set + ")", x.worn(s, set), model.worn(s, set));
            case 24 -> {
                for (int ends = draws.below(4); ends < 1 << stones && used < CALLS; ends += 4) {
                    due("worn(" + s + ", " + ends + ")", x.worn(s, ends), model.worn(s, ends));
                }
            }
            case 25 -> due("tell(" + t + ")", x.tell(t), model.tell(t));
            case 26 -> due("noRow()", x.noRow(), model.noRow());
            case 27 -> due("judge()", x.judge(), model.judge());
            case 28 -> {
                int z = near(10000);
                int n = near(100);
                due("year(" + z + ", " + n + ", " + what + ")", x.year(z, n, what), model.year(z, n, what));
            }
            case 29 -> due("keep()", x.keep(), model.keep());
            default -> due("back()", x.back(), model.back());
        }
    }

    private void takeOutAtTimes(int s) {
        // Not too often, that slabs are left to walk on.
        if (draws.oneOf(3)) {
            due("takeOut(" + s + ")", x.takeOut(s), model.takeOut(s));
        }
    }
}
