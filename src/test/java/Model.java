import java.util.ArrayDeque;
import java.util.ArrayList;
import java.util.Deque;
import java.util.List;
import java.util.Set;
import java.util.TreeSet;
import java.util.regex.Matcher;
import java.util.regex.Pattern;

/**
 * The document once more, by other means than the class: sets are sets, floors
 * are copied whole for undo and keep, walks are counted row by row. It is slow.
 */
final class Model {
    private static final int BAD = -1;
    private static final int NO = -2;
    private static final int FULL = -3;
    private static final int NONE = -4;

    private record Step(int a, int b, int c) {
    }

    private static final class State {
        List<Step> steps = new ArrayList<>();
        Set<Integer> there = new TreeSet<>();
        Set<Integer> stood = new TreeSet<>();
        int[] worn = new int[10];

        State copy() {
            State other = new State();
            other.steps.addAll(steps);
            other.there.addAll(there);
            other.stood.addAll(stood);
            other.worn = worn.clone();
            return other;
        }
    }

    private String text = "";
    private int stones;
    private Set<Integer> begins = new TreeSet<>();
    private Set<Integer> gainsay = new TreeSet<>(); // 10 * lower + higher
    private State now = new State();
    private final Deque<State> undone = new ArrayDeque<>();
    private final Deque<State> kept = new ArrayDeque<>();
    private final List<Integer> told = new ArrayList<>();

    Model() {
        text = "n4;a0;a1;t0,1,2;t2,2,3;";
        layFloor();
        text = "";
    }

    // ---- floors

    int write(int n, long v) {
        if (n < 1 || n > 8) {
            return BAD;
        }
        if (text.length() + n > 300) {
            return FULL;
        }
        String hex = String.format("%016x", v).substring(16 - 2 * n);
        for (int i = 0; i < n; i++) {
            text += (char) Integer.parseInt(hex.substring(2 * i, 2 * i + 2), 16);
        }
        return text.length();
    }

    int wipe() {
        int had = text.length();
        text = "";
        return had;
    }

    private static final Pattern ITEM = Pattern.compile(
            "([na])([0-9]{1,2});|([xw])([0-9]{1,2}),([0-9]{1,2});|t([0-9]{1,2}),([0-9]{1,2}),([0-9]{1,2});");

    /** Where the text is at fault; what it tells up to there comes onto the other model's floor. */
    private int read(Model onto) {
        onto.stones = 4;
        onto.begins = new TreeSet<>();
        onto.gainsay = new TreeSet<>();
        onto.now = new State();
        boolean other = false;
        Matcher item = ITEM.matcher(text);
        int place = 0;
        while (place < text.length()) {
            item.region(place, text.length());
            if (!item.lookingAt()) {
                return place;
            }
            char letter = text.charAt(place);
            String[] numbers = item.group().substring(1, item.group().length() - 1).split(",");
            int[] of = new int[3];
            for (int i = 0; i < numbers.length; i++) {
                of[i] = Integer.parseInt(numbers[i]);
            }
            if (letter == 'n') {
                if (other || of[0] < 1 || of[0] > 10) {
                    return place;
                }
                onto.stones = of[0];
            } else {
                other = true;
                int stonesTold = letter == 't' ? 3 : letter == 'x' ? 2 : 1;
                for (int i = 0; i < stonesTold; i++) {
                    if (of[i] >= onto.stones) {
                        return place;
                    }
                }
                if (letter == 'a') {
                    onto.begins.add(of[0]);
                } else if (letter == 'w') {
                    onto.now.worn[of[0]] = of[1];
                } else if (letter == 'x') {
                    if (of[0] == of[1]) {
                        return place;
                    }
                    onto.gainsay.add(10 * Math.min(of[0], of[1]) + Math.max(of[0], of[1]));
                } else {
                    if (of[2] == of[0] || of[2] == of[1] || onto.now.steps.size() == 10) {
                        return place;
                    }
                    onto.now.steps.add(new Step(of[0], of[1], of[2]));
                }
            }
            place = item.end();
        }
        for (int s = 0; s < onto.stones; s++) {
            onto.now.there.add(s);
        }
        onto.now.stood.addAll(onto.begins);
        return NONE;
    }

    private Model(boolean bare) {
    }

    int fault() {
        return read(new Model(true));
    }

    int layFloor() {
        Model other = new Model(true);
        if (read(other) != NONE || other.now.steps.isEmpty()) {
            return NO;
        }
        stones = other.stones;
        begins = other.begins;
        gainsay = other.gainsay;
        now = other.now;
        undone.clear();
        kept.clear();
        told.clear();
        return stones;
    }

    private boolean noStone(int s) {
        return s < 0 || s >= stones;
    }

    private boolean noStep(int t) {
        return t < 0 || t >= now.steps.size();
    }

    private boolean noSet(int set) {
        return set < 0 || set >= Math.pow(2, stones);
    }

    private static int bits(Iterable<Integer> set) {
        int sum = 0;
        for (int s : set) {
            sum += (int) Math.pow(2, s);
        }
        return sum;
    }

    private static Set<Integer> setOf(int bits) {
        Set<Integer> set = new TreeSet<>();
        for (int s = 0; s < 31; s++) {
            if (bits / (int) Math.pow(2, s) % 2 == 1) {
                set.add(s);
            }
        }
        return set;
    }

    int stone(int s, int what) {
        if (noStone(s) || what < 0 || what > 4) {
            return BAD;
        }
        if (what == 4) {
            Set<Integer> others = new TreeSet<>();
            for (int pair : gainsay) {
                if (pair / 10 == s) {
                    others.add(pair % 10);
                }
                if (pair % 10 == s) {
                    others.add(pair / 10);
                }
            }
            return bits(others);
        }
        if (what == 3) {
            return now.worn[s];
        }
        return (what == 0 ? now.there : what == 1 ? now.stood : begins).contains(s) ? 1 : 0;
    }

    private static boolean may(Step step, Set<Integer> stood, Set<Integer> there) {
        return there.contains(step.a) && there.contains(step.b) && there.contains(step.c)
                && stood.contains(step.a) && stood.contains(step.b) && !stood.contains(step.c);
    }

    int step(int t, int what) {
        if (noStep(t) || what < 0 || what > 3) {
            return BAD;
        }
        Step step = now.steps.get(t);
        return what == 0 ? step.a : what == 1 ? step.b : what == 2 ? step.c
                : may(step, now.stood, now.there) ? 1 : 0;
    }

    // ---- steps

    private void note() {
        undone.addLast(now.copy());
        if (undone.size() > 8) {
            undone.removeFirst();
        }
    }

    int go(int t) {
        if (noStep(t)) {
            return BAD;
        }
        Step step = now.steps.get(t);
        if (!may(step, now.stood, now.there)) {
            return NO;
        }
        note();
        now.stood.add(step.c);
        now.worn[step.c]++;
        return now.stood.size();
    }

    int takeOut(int s) {
        if (noStone(s)) {
            return BAD;
        }
        if (!now.there.contains(s)) {
            return NO;
        }
        note();
        now.there.remove(s);
        now.stood.remove(s);
        return now.there.size();
    }

    int lay(int a, int b, int c) {
        if (noStone(a) || noStone(b) || noStone(c) || c == a || c == b) {
            return BAD;
        }
        if (now.steps.size() == 10) {
            return FULL;
        }
        note();
        now.steps.add(new Step(a, b, c));
        return now.steps.size() - 1;
    }

    int undo() {
        if (undone.isEmpty()) {
            return NO;
        }
        now = undone.removeLast();
        told.clear();
        return undone.size();
    }

    private static Set<Integer> reachOf(Set<Integer> from, List<Step> steps, Set<Integer> there) {
        Set<Integer> reached = new TreeSet<>(from);
        reached.retainAll(there);
        for (Step step : steps) {
            if (may(step, reached, there)) {
                reached.add(step.c);
                return reachOf(reached, steps, there);
            }
        }
        return reached;
    }

    private Set<Integer> reachOf(Set<Integer> from) {
        return reachOf(from, now.steps, now.there);
    }

    int reach(int set) {
        return noSet(set) ? BAD : bits(reachOf(setOf(set)));
    }

    // ---- walks

    private void rows(Set<Integer> stood, int s, int left, int first, List<Integer> firsts) {
        if (stood.contains(s)) {
            firsts.add(first);
            return;
        }
        if (left == 0) {
            return;
        }
        for (int t = 0; t < now.steps.size(); t++) {
            if (may(now.steps.get(t), stood, now.there)) {
                Set<Integer> more = new TreeSet<>(stood);
                more.add(now.steps.get(t).c);
                rows(more, s, left - 1, first == NONE ? t : first, firsts);
            }
        }
    }

    long walk(int s, int what) {
        if (noStone(s) || what < 0 || what > 2) {
            return BAD;
        }
        if (!reachOf(now.stood).contains(s)) {
            return NONE;
        }
        for (int steps = 0; ; steps++) {
            List<Integer> firsts = new ArrayList<>();
            rows(now.stood, s, steps, NONE, firsts);
            if (!firsts.isEmpty()) {
                return what == 0 ? steps : what == 1 ? firsts.get(0) : firsts.size();
            }
        }
    }

    int round(int s) {
        if (noStone(s)) {
            return BAD;
        }
        Set<Integer> stood = new TreeSet<>(now.stood);
        for (int times = 0; times < 100; times++) {
            if (stood.contains(s)) {
                return times;
            }
            Set<Integer> more = new TreeSet<>(stood);
            for (Step step : now.steps) {
                if (may(step, stood, now.there)) {
                    more.add(step.c);
                }
            }
            stood = more;
        }
        return NONE;
    }

    // ---- beginnings

    private Set<Integer> beginnings() {
        Set<Integer> set = new TreeSet<>(begins);
        set.retainAll(now.there);
        return set;
    }

    /** All parts of a set, the fewest first, of as many the lowest first. */
    private static List<Set<Integer>> partsOf(Set<Integer> whole) {
        List<Set<Integer>> parts = new ArrayList<>();
        for (int size = 0; size <= whole.size(); size++) {
            for (int bits = 0; bits < 1024; bits++) {
                Set<Integer> part = setOf(bits);
                if (part.size() == size && whole.containsAll(part)) {
                    parts.add(part);
                }
            }
        }
        return parts;
    }

    private static Set<Integer> without(Set<Integer> set, Set<Integer> part) {
        Set<Integer> left = new TreeSet<>(set);
        left.removeAll(part);
        return left;
    }

    private static Set<Integer> with(Set<Integer> set, Set<Integer> part) {
        Set<Integer> both = new TreeSet<>(set);
        both.addAll(part);
        return both;
    }

    int needs(int s, int what) {
        if (noStone(s) || what < 0 || what > 1) {
            return BAD;
        }
        if (!reachOf(beginnings()).contains(s)) {
            return NONE;
        }
        if (what == 0) {
            Set<Integer> needed = new TreeSet<>();
            for (int b : beginnings()) {
                if (!reachOf(without(beginnings(), Set.of(b))).contains(s)) {
                    needed.add(b);
                }
            }
            return bits(needed);
        }
        for (Set<Integer> part : partsOf(beginnings())) {
            if (reachOf(part).contains(s)) {
                return bits(part);
            }
        }
        throw new IllegalStateException();
    }

    int lost(int s) {
        if (noStone(s)) {
            return BAD;
        }
        if (!now.there.contains(s)) {
            return NO;
        }
        Set<Integer> left = reachOf(beginnings(), now.steps, without(now.there, Set.of(s)));
        return bits(without(without(reachOf(beginnings()), left), Set.of(s)));
    }

    int begin(int s) {
        if (noStone(s)) {
            return BAD;
        }
        if (!now.there.contains(s)) {
            return NO;
        }
        for (Set<Integer> part : partsOf(without(now.there, Set.of(s)))) {
            if (reachOf(with(beginnings(), part)).contains(s)) {
                return bits(part);
            }
        }
        return NONE;
    }

    private boolean hallFrom(Set<Integer> set) {
        Set<Integer> reached = reachOf(set);
        for (int pair : gainsay) {
            if (reached.contains(pair / 10) && reached.contains(pair % 10)) {
                return true;
            }
        }
        return false;
    }

    int hall(int what) {
        if (what < 0 || what > 1) {
            return BAD;
        }
        if (what == 0) {
            return hallFrom(beginnings()) ? 1 : 0;
        }
        for (Set<Integer> part : partsOf(beginnings())) {
            if (hallFrom(part)) {
                return bits(part);
            }
        }
        return NONE;
    }

    int rope() {
        for (Set<Integer> part : partsOf(beginnings())) {
            if (!hallFrom(without(beginnings(), part))) {
                return bits(part);
            }
        }
        throw new IllegalStateException();
    }

    // ---- the floor

    private Set<Integer> allStones() {
        Set<Integer> all = new TreeSet<>();
        for (int s = 0; s < stones; s++) {
            all.add(s);
        }
        return all;
    }

    int idle() {
        Set<Integer> idle = new TreeSet<>();
        for (int t = 0; t < now.steps.size(); t++) {
            Step step = now.steps.get(t);
            List<Step> others = new ArrayList<>(now.steps);
            others.remove(t);
            Set<Integer> from = new TreeSet<>(List.of(step.a, step.b == step.a ? step.a : step.b));
            if (reachOf(from, others, allStones()).contains(step.c)) {
                idle.add(t);
            }
        }
        return bits(idle);
    }

    /** The most steps one behind the other from a stone; 100 and more in a circle. */
    private int deepFrom(int s, int behind) {
        if (behind > 100) {
            return 0;
        }
        int most = 0;
        for (Step step : now.steps) {
            if (step.a == s || step.b == s) {
                most = Math.max(most, 1 + deepFromOnce(step.c, behind + 1));
            }
        }
        return most;
    }

    private final int[][] depths = new int[10][102];

    private int deepFromOnce(int s, int behind) {
        if (depths[s][behind] < 0) {
            depths[s][behind] = deepFrom(s, behind);
        }
        return depths[s][behind];
    }

    private boolean leads(int from, int to, Set<Integer> passed) {
        for (Step step : now.steps) {
            if (step.a == from || step.b == from) {
                if (step.c == to || passed.add(step.c) && leads(step.c, to, passed)) {
                    return true;
                }
            }
        }
        return false;
    }

    int circle() {
        for (int s = 0; s < stones; s++) {
            if (leads(s, s, new TreeSet<>())) {
                return s;
            }
        }
        return NONE;
    }

    int deep() {
        for (int[] row : depths) {
            java.util.Arrays.fill(row, -1);
        }
        int most = 0;
        for (int s = 0; s < stones; s++) {
            most = Math.max(most, deepFromOnce(s, 0));
        }
        return most >= 100 ? NONE : most;
    }

    // ---- proofs

    private List<Set<Integer>> proofsOf(int s) {
        int sets = (int) Math.pow(2, now.steps.size());
        boolean[] leads = new boolean[sets];
        for (int bits = 0; bits < sets; bits++) {
            List<Step> steps = new ArrayList<>();
            for (int t : setOf(bits)) {
                steps.add(now.steps.get(t));
            }
            leads[bits] = reachOf(beginnings(), steps, now.there).contains(s);
        }
        List<Set<Integer>> proofs = new ArrayList<>();
        for (int bits = 0; bits < sets; bits++) {
            boolean least = leads[bits];
            for (int part = 0; part < bits && least; part++) {
                least = (part & bits) != part || !leads[part];
            }
            if (least) {
                proofs.add(setOf(bits));
            }
        }
        return proofs;
    }

    int proofs(int s, int what) {
        if (noStone(s) || what < 0 || what > 2) {
            return BAD;
        }
        List<Set<Integer>> proofs = proofsOf(s);
        if (what == 0) {
            return proofs.size();
        }
        if (proofs.isEmpty()) {
            return what == 1 ? NONE : 0;
        }
        Set<Integer> best = proofs.get(0);
        Set<Integer> all = new TreeSet<>(best);
        for (Set<Integer> proof : proofs) {
            all.retainAll(proof);
            if (proof.size() < best.size()) {
                best = proof;
            }
        }
        return bits(what == 1 ? best : all);
    }

    int worn(int s, int set) {
        if (noStone(s) || noSet(set)) {
            return BAD;
        }
        int many = 0;
        for (Set<Integer> proof : proofsOf(s)) {
            Set<Integer> to = new TreeSet<>();
            for (int t : proof) {
                to.add(now.steps.get(t).c);
            }
            many += bits(to) == set ? 1 : 0;
        }
        return many;
    }

    int tell(int t) {
        if (noStep(t)) {
            return BAD;
        }
        if (told.size() == 12) {
            return FULL;
        }
        told.add(t);
        return told.size();
    }

    int noRow() {
        int had = told.size();
        told.clear();
        return had;
    }

    int judge() {
        Set<Integer> stood = new TreeSet<>(now.stood);
        for (int place = 0; place < told.size(); place++) {
            Step step = now.steps.get(told.get(place));
            if (!may(step, stood, now.there)) {
                return place;
            }
            stood.add(step.c);
        }
        return NONE;
    }

    int year(int z, int n, int what) {
        if (z < 0 || z > 9999 || n < 1 || n > 99 || what < 0 || what > 1) {
            return BAD;
        }
        Set<Integer> stood = new TreeSet<>(now.stood);
        int gone = 0;
        for (int k = 0; k < n; k++) {
            long x = (7919L * z + 6151L * k + 1) % 65521;
            Step step = now.steps.get((int) (x * x % 65521) % now.steps.size());
            if (may(step, stood, now.there)) {
                stood.add(step.c);
                gone++;
            }
        }
        return what == 0 ? gone : bits(stood);
    }

    int keep() {
        if (kept.size() == 2) {
            return FULL;
        }
        kept.addLast(now.copy());
        return kept.size();
    }

    int back() {
        if (kept.isEmpty()) {
            return NO;
        }
        now = kept.removeLast();
        undone.clear();
        told.clear();
        return kept.size();
    }

    int count(int what) {
        int[] counts = {stones, now.steps.size(), now.there.size(), now.stood.size(),
            told.size(), undone.size(), kept.size(), text.length()};
        return what < 0 || what >= counts.length ? BAD : counts[what];
    }
}
