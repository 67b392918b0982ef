/**
 * A floor laid with sentences: a step from stones to a stone is a step of
 * thought, and what is proved is where one can get to. What every call answers
 * stands in DOC.md; words in capitals there bear the same names here.
 *
 * Sets of stones and sets of steps are the bits of an int, lowest number first.
 */
public final class FloorOfProofs {
    public static final int BAD = -1, NO = -2, FULL = -3, NONE = -4;

    private static final int MOST_BYTES = 300;
    private static final int MOST_STONES = 10;
    private static final int MOST_STEPS = 10;
    private static final int MOST_TOLD = 12;
    private static final int MOST_UNDONE = 8;
    private static final int MOST_KEPT = 2;
    private static final int STONES_UNTOLD = 4;
    private static final int ALL_STEPS = (1 << MOST_STEPS) - 1;
    private static final int ALL_SETS = 1 << MOST_STONES;
    private static final String FIRST_FLOOR = "n4;a0;a1;t0,1,2;t2,2,3;";

    private final Text text = new Text();
    private final Reader reader = new Reader();
    private final Floor draft = new Floor();
    private final Floor floor = new Floor();
    private final Floor keptFirst = new Floor();
    private final Floor keptSecond = new Floor();
    private final Past past = new Past();
    private final Walks walks = new Walks();
    private final ProofRows proofRows = new ProofRows();
    private final int[] told = new int[MOST_TOLD];
    private int toldCount;
    private int keptCount;

    public FloorOfProofs() {
        text.addSigns(FIRST_FLOOR);
        reader.readOnto(floor, text);
        text.clear();
    }

    // ---- floors

    public int write(int n, long v) {
        if (n < 1 || n > 8) {
            return BAD;
        }
        if (text.size() + n > MOST_BYTES) {
            return FULL;
        }
        for (int behind = n - 1; behind >= 0; behind--) {
            text.addByte((int) (v >> (8 * behind)) & 255);
        }
        return text.size();
    }

    public int wipe() {
        int had = text.size();
        text.clear();
        return had;
    }

    public int fault() {
        return reader.readOnto(draft, text);
    }

    public int layFloor() {
        if (reader.readOnto(draft, text) != NONE || draft.stepCount() == 0) {
            return NO;
        }
        floor.copyFrom(draft);
        keptCount = 0;
        forgetRowAndPast();
        return floor.stoneCount();
    }

    public int stone(int s, int what) {
        if (!isStone(s) || what < 0 || what > 4) {
            return BAD;
        }
        switch (what) {
            case 0:
                return bitOf(floor.there(), s);
            case 1:
                return bitOf(floor.stood(), s);
            case 2:
                return bitOf(floor.begins(), s);
            case 3:
                return floor.wearOf(s);
            default:
                return floor.gainsayersOf(s);
        }
    }

    public int step(int t, int what) {
        if (!isStep(t) || what < 0 || what > 3) {
            return BAD;
        }
        switch (what) {
            case 0:
                return floor.firstOf(t);
            case 1:
                return floor.secondOf(t);
            case 2:
                return floor.endOf(t);
            default:
                return floor.mayBeGone(t) ? 1 : 0;
        }
    }

    // ---- steps

    public int go(int t) {
        if (!isStep(t)) {
            return BAD;
        }
        if (!floor.mayBeGone(t)) {
            return NO;
        }
        floor.tread(t);
        past.noteGone(floor.endOf(t));
        return Integer.bitCount(floor.stood());
    }

    public int takeOut(int s) {
        if (!isStone(s)) {
            return BAD;
        }
        if (!floor.isThere(s)) {
            return NO;
        }
        past.noteOut(s, bitOf(floor.stood(), s) == 1);
        floor.removeSlab(s);
        return Integer.bitCount(floor.there());
    }

    public int lay(int a, int b, int c) {
        if (!floor.couldBeStep(a, b, c)) {
            return BAD;
        }
        if (floor.stepCount() >= MOST_STEPS) {
            return FULL;
        }
        floor.addStep(a, b, c);
        past.noteLaid();
        return floor.stepCount() - 1;
    }

    public int undo() {
        if (past.size() == 0) {
            return NO;
        }
        past.takeBackLatest(floor);
        toldCount = 0;
        return past.size();
    }

    public int reach(int set) {
        if (!isSetOfStones(set)) {
            return BAD;
        }
        return floor.reachOf(set);
    }

    // ---- walks

    public long walk(int s, int what) {
        if (!isStone(s) || what < 0 || what > 2) {
            return BAD;
        }
        walks.measure(floor, s);
        switch (what) {
            case 0:
                return walks.fewestSteps(floor);
            case 1:
                return walks.lowestFirstStep(floor);
            default:
                return walks.howManyRows(floor);
        }
    }

    public int round(int s) {
        if (!isStone(s)) {
            return BAD;
        }
        return Walks.rounds(floor, s);
    }

    // ---- beginnings

    public int needs(int s, int what) {
        if (!isStone(s) || what < 0 || what > 1) {
            return BAD;
        }
        if (!Beginnings.leadTo(floor, s)) {
            return NONE;
        }
        return what == 0 ? Beginnings.neededFor(floor, s) : Beginnings.fewestFor(floor, s);
    }

    public int lost(int s) {
        if (!isStone(s)) {
            return BAD;
        }
        if (!floor.isThere(s)) {
            return NO;
        }
        return Beginnings.lostBy(floor, s);
    }

    public int begin(int s) {
        if (!isStone(s)) {
            return BAD;
        }
        if (!floor.isThere(s)) {
            return NO;
        }
        return Beginnings.fewestMoreFor(floor, s);
    }

    public int hall(int what) {
        if (what < 0 || what > 1) {
            return BAD;
        }
        if (what == 0) {
            return Beginnings.leadIntoHall(floor) ? 1 : 0;
        }
        return Beginnings.fewestIntoHall(floor);
    }

    public int rope() {
        return Beginnings.fewestToRopeOff(floor);
    }

    // ---- the floor

    public int idle() {
        return Shape.idleSteps(floor);
    }

    public int circle() {
        return Shape.lowestInCircle(floor);
    }

    public int deep() {
        return Shape.depth(floor);
    }

    // ---- proofs

    public int proofs(int s, int what) {
        if (!isStone(s) || what < 0 || what > 2) {
            return BAD;
        }
        proofRows.reckon(floor);
        switch (what) {
            case 0:
                return proofRows.howMany(s);
            case 1:
                return proofRows.shortest(s);
            default:
                return proofRows.inAll(s);
        }
    }

    public int worn(int s, int set) {
        if (!isStone(s) || !isSetOfStones(set)) {
            return BAD;
        }
        proofRows.reckon(floor);
        return proofRows.howManyWear(floor, s, set);
    }

    public int tell(int t) {
        if (!isStep(t)) {
            return BAD;
        }
        if (toldCount >= MOST_TOLD) {
            return FULL;
        }
        put(told, toldCount, t);
        toldCount++;
        return toldCount;
    }

    public int noRow() {
        int had = toldCount;
        toldCount = 0;
        return had;
    }

    public int judge() {
        int on = floor.stood();
        for (int place = 0; place < toldCount; place++) {
            int after = floor.after(at(told, place), on);
            if (after == on) {
                return place;
            }
            on = after;
        }
        return NONE;
    }

    public int year(int z, int n, int what) {
        if (z < 0 || z > 9999 || n < 1 || n > 99 || what < 0 || what > 1) {
            return BAD;
        }
        int on = floor.stood();
        for (int k = 0; k < n; k++) {
            on = floor.after(drawnStep(z, k), on);
        }
        // Each step that is gone adds one stone.
        return what == 0 ? Integer.bitCount(on) - Integer.bitCount(floor.stood()) : on;
    }

    public int keep() {
        if (keptCount >= MOST_KEPT) {
            return FULL;
        }
        keeperOf(keptCount).copyFrom(floor);
        keptCount++;
        return keptCount;
    }

    public int back() {
        if (keptCount == 0) {
            return NO;
        }
        keptCount--;
        floor.copyFrom(keeperOf(keptCount));
        forgetRowAndPast();
        return keptCount;
    }

    public int count(int what) {
        switch (what) {
            case 0:
                return floor.stoneCount();
            case 1:
                return floor.stepCount();
            case 2:
                return Integer.bitCount(floor.there());
            case 3:
                return Integer.bitCount(floor.stood());
            case 4:
                return toldCount;
            case 5:
                return past.size();
            case 6:
                return keptCount;
            case 7:
                return text.size();
            default:
                return BAD;
        }
    }

    // ---- what several calls share

    private boolean isStone(int s) {
        return floor.hasStone(s);
    }

    private boolean isStep(int t) {
        return t >= 0 && t < floor.stepCount();
    }

    private boolean isSetOfStones(int set) {
        return set >= 0 && set <= floor.allStones();
    }

    private void forgetRowAndPast() {
        toldCount = 0;
        past.clear();
    }

    private Floor keeperOf(int place) {
        return place == 0 ? keptFirst : keptSecond;
    }

    private int drawnStep(int z, int k) {
        int steps = floor.stepCount();
        if (steps == 0) {
            return 0;
        }
        long x = 7919L * z + 6151L * k + 1;
        return (int) (x * x % 65521 % steps);
    }

    private static int bitOf(int set, int number) {
        return (set >> number) & 1;
    }

    private static boolean has(int set, int number) {
        return bitOf(set, number) == 1;
    }

    private static boolean holdsAll(int set, int part) {
        return (set & part) == part;
    }

    // Rows are read and written only through these, so that no index can be wrong.
    private static int at(int[] row, int place) {
        return place >= 0 && place < row.length ? row[place] : 0;
    }

    private static void put(int[] row, int place, int value) {
        if (place >= 0 && place < row.length) {
            row[place] = value;
        }
    }

    private static void copy(int[] from, int[] to) {
        for (int i = 0; i < from.length && i < to.length; i++) {
            to[i] = from[i];
        }
    }

    private static void clearRow(int[] row) {
        for (int i = 0; i < row.length; i++) {
            row[i] = 0;
        }
    }

    /** THE TEXT. */
    private static final class Text {
        private static final int BEYOND = -1;

        private final int[] bytes = new int[MOST_BYTES];
        private int size;

        int size() {
            return size;
        }

        void clear() {
            size = 0;
        }

        void addByte(int value) {
            if (size < MOST_BYTES) {
                put(bytes, size, value);
                size++;
            }
        }

        void addSigns(String signs) {
            for (int i = 0; i < signs.length(); i++) {
                addByte(signs.charAt(i));
            }
        }

        int byteAt(int place) {
            return place >= 0 && place < size ? at(bytes, place) : BEYOND;
        }
    }

    /** Reads a text, item by item, onto a floor. */
    private static final class Reader {
        private static final int NO_ITEM = -1;
        private static final int MOST_NUMBERS = 3;

        private final int[] numbers = new int[MOST_NUMBERS];
        private boolean onlyStonesTold;

        /** The FAULT, or NONE: only then is the floor whole. */
        int readOnto(Floor floor, Text text) {
            floor.empty();
            onlyStonesTold = true;
            int place = 0;
            // No text has as many items as bytes: the place ends the loop.
            for (int items = 0; items < MOST_BYTES && place < text.size(); items++) {
                int next = itemsEnd(text, place);
                if (next == NO_ITEM || !takeItem(floor, text.byteAt(place))) {
                    return place;
                }
                place = next;
            }
            floor.standOnBeginnings();
            return NONE;
        }

        private static int numbersOf(int letter) {
            switch (letter) {
                case 'n':
                case 'a':
                    return 1;
                case 'x':
                case 'w':
                    return 2;
                case 't':
                    return 3;
                default:
                    return 0;
            }
        }

        private int itemsEnd(Text text, int start) {
            int wanted = numbersOf(text.byteAt(start));
            if (wanted == 0) {
                return NO_ITEM;
            }
            int place = start + 1;
            for (int k = 0; k < wanted; k++) {
                int figures = figuresAt(text, place);
                if (figures == 0) {
                    return NO_ITEM;
                }
                put(numbers, k, numberAt(text, place, figures));
                int parting = k == wanted - 1 ? ';' : ',';
                if (text.byteAt(place + figures) != parting) {
                    return NO_ITEM;
                }
                place += figures + 1;
            }
            return place;
        }

        private static boolean isFigure(int sign) {
            return sign >= '0' && sign <= '9';
        }

        private static int figuresAt(Text text, int place) {
            if (!isFigure(text.byteAt(place))) {
                return 0;
            }
            return isFigure(text.byteAt(place + 1)) ? 2 : 1;
        }

        private static int numberAt(Text text, int place, int figures) {
            int value = 0;
            for (int i = 0; i < figures; i++) {
                value = 10 * value + text.byteAt(place + i) - '0';
            }
            return value;
        }

        /** False, if the item's numbers are not so. */
        private boolean takeItem(Floor floor, int letter) {
            int one = at(numbers, 0);
            int two = at(numbers, 1);
            if (letter == 'n') {
                return onlyStonesTold && floor.setStones(one);
            }
            onlyStonesTold = false;
            switch (letter) {
                case 'a':
                    return floor.beginOn(one);
                case 't':
                    return floor.addStep(one, two, at(numbers, 2));
                case 'x':
                    return floor.setGainsay(one, two);
                default:
                    return floor.setWear(one, two);
            }
        }
    }

    /** What is laid, and how things stand on it. */
    private static final class Floor {
        private final int[] firsts = new int[MOST_STEPS];
        private final int[] seconds = new int[MOST_STEPS];
        private final int[] ends = new int[MOST_STEPS];
        // A and B of each step, as bits.
        private final int[] origins = new int[MOST_STEPS];
        private final int[] gainsayers = new int[MOST_STONES];
        private final int[] wear = new int[MOST_STONES];
        private int stoneCount;
        private int stepCount;
        private int begins;
        private int there;
        private int stood;

        void empty() {
            clearRow(gainsayers);
            clearRow(wear);
            stepCount = 0;
            begins = 0;
            stood = 0;
            setStones(STONES_UNTOLD);
        }

        void copyFrom(Floor other) {
            copy(other.firsts, firsts);
            copy(other.seconds, seconds);
            copy(other.ends, ends);
            copy(other.origins, origins);
            copy(other.gainsayers, gainsayers);
            copy(other.wear, wear);
            stoneCount = other.stoneCount;
            stepCount = other.stepCount;
            begins = other.begins;
            there = other.there;
            stood = other.stood;
        }

        boolean setStones(int count) {
            if (count < 1 || count > MOST_STONES) {
                return false;
            }
            stoneCount = count;
            there = allStones();
            return true;
        }

        boolean beginOn(int s) {
            if (!hasStone(s)) {
                return false;
            }
            begins |= 1 << s;
            return true;
        }

        void standOnBeginnings() {
            stood = beginnings();
        }

        boolean couldBeStep(int a, int b, int c) {
            return hasStone(a) && hasStone(b) && hasStone(c) && c != a && c != b;
        }

        boolean addStep(int a, int b, int c) {
            if (!couldBeStep(a, b, c) || stepCount >= MOST_STEPS) {
                return false;
            }
            put(firsts, stepCount, a);
            put(seconds, stepCount, b);
            put(ends, stepCount, c);
            put(origins, stepCount, 1 << a | 1 << b);
            stepCount++;
            return true;
        }

        boolean setGainsay(int a, int b) {
            if (!hasStone(a) || !hasStone(b) || a == b) {
                return false;
            }
            put(gainsayers, a, at(gainsayers, a) | 1 << b);
            put(gainsayers, b, at(gainsayers, b) | 1 << a);
            return true;
        }

        boolean setWear(int s, int by) {
            if (!hasStone(s)) {
                return false;
            }
            put(wear, s, by);
            return true;
        }

        int stoneCount() {
            return stoneCount;
        }

        int stepCount() {
            return stepCount;
        }

        int begins() {
            return begins;
        }

        int beginnings() {
            return begins & there;
        }

        int there() {
            return there;
        }

        int stood() {
            return stood;
        }

        int allStones() {
            return (1 << stoneCount) - 1;
        }

        boolean hasStone(int s) {
            return s >= 0 && s < stoneCount;
        }

        boolean isThere(int s) {
            return has(there, s);
        }

        int wearOf(int s) {
            return at(wear, s);
        }

        int gainsayersOf(int s) {
            return at(gainsayers, s);
        }

        int firstOf(int t) {
            return at(firsts, t);
        }

        int secondOf(int t) {
            return at(seconds, t);
        }

        int endOf(int t) {
            return at(ends, t);
        }

        int originsOf(int t) {
            return at(origins, t);
        }

        boolean mayBeGone(int t) {
            return after(t, stood) != stood;
        }

        /** The stones stood on when a step is gone from these; the same ones, if it may not be. */
        int after(int t, int on) {
            return afterAmong(t, on, there);
        }

        /** As after(), were just these slabs there; on holds none but these. */
        private int afterAmong(int t, int on, int slabs) {
            int end = 1 << at(ends, t);
            return holdsAll(on, at(origins, t)) && holdsAll(slabs, end) ? on | end : on;
        }

        void tread(int t) {
            int c = endOf(t);
            stood = after(t, stood);
            put(wear, c, at(wear, c) + 1);
        }

        void untread(int c) {
            stood &= ~(1 << c);
            put(wear, c, at(wear, c) - 1);
        }

        void removeSlab(int s) {
            there &= ~(1 << s);
            stood &= ~(1 << s);
        }

        void putSlabBack(int s, boolean wasStoodOn) {
            there |= 1 << s;
            if (wasStoodOn) {
                stood |= 1 << s;
            }
        }

        void removeLatestStep() {
            if (stepCount > 0) {
                stepCount--;
            }
        }

        int reachOf(int set) {
            return reachBy(set, ALL_STEPS, there);
        }

        /** The reach of a set by these steps alone, were just these slabs there. */
        int reachBy(int set, int steps, int slabs) {
            int on = set & slabs;
            // A turn but the last one adds a stone.
            for (int turn = 0; turn < MOST_STONES; turn++) {
                int before = on;
                for (int t = 0; t < stepCount; t++) {
                    if (has(steps, t)) {
                        on = afterAmong(t, on, slabs);
                    }
                }
                if (on == before) {
                    return on;
                }
            }
            return on;
        }

        boolean hasGainsayersIn(int set) {
            for (int s = 0; s < stoneCount; s++) {
                if (has(set, s) && (gainsayersOf(s) & set) != 0) {
                    return true;
                }
            }
            return false;
        }

        /** The stones to which steps lead that have a stone of the set as one of their two. */
        int directlyBehind(int set) {
            int behind = 0;
            for (int t = 0; t < stepCount; t++) {
                if ((originsOf(t) & set) != 0) {
                    behind |= 1 << endOf(t);
                }
            }
            return behind;
        }
    }

    /** The latest changes, as far back as they can be undone. */
    private static final class Past {
        private static final int GONE = 0, OUT = 1, OUT_WHILE_STOOD_ON = 2, LAID = 3;

        private final int[] kinds = new int[MOST_UNDONE];
        private final int[] stones = new int[MOST_UNDONE];
        private int size;

        int size() {
            return size;
        }

        void clear() {
            size = 0;
        }

        void noteGone(int c) {
            note(GONE, c);
        }

        void noteOut(int s, boolean wasStoodOn) {
            note(wasStoodOn ? OUT_WHILE_STOOD_ON : OUT, s);
        }

        void noteLaid() {
            note(LAID, 0);
        }

        private void note(int kind, int s) {
            if (size >= MOST_UNDONE) {
                forgetOldest();
            }
            put(kinds, size, kind);
            put(stones, size, s);
            size++;
        }

        private void forgetOldest() {
            for (int i = 1; i < size; i++) {
                put(kinds, i - 1, at(kinds, i));
                put(stones, i - 1, at(stones, i));
            }
            size--;
        }

        void takeBackLatest(Floor floor) {
            if (size == 0) {
                return;
            }
            size--;
            int kind = at(kinds, size);
            int s = at(stones, size);
            if (kind == GONE) {
                floor.untread(s);
            } else if (kind == LAID) {
                floor.removeLatestStep();
            } else {
                floor.putSlabBack(s, kind == OUT_WHILE_STOOD_ON);
            }
        }
    }

    /**
     * Walks to one stone from every set of stones that one can come to stand on.
     * A row of steps is counted by the sets it passes, for there are far fewer
     * sets than rows.
     */
    private static final class Walks {
        // More than any walk has.
        private static final int FAR = 1000;

        private final int[] fewest = new int[ALL_SETS];
        private final int[] rows = new int[ALL_SETS];

        void measure(Floor floor, int s) {
            int stood = floor.stood();
            // A step leads to a higher set: from the highest down, what lies ahead is known.
            for (int on = floor.there(); on >= stood; on--) {
                if (holdsAll(on, stood) && holdsAll(floor.there(), on)) {
                    measureFrom(floor, on, s);
                }
            }
        }

        private void measureFrom(Floor floor, int on, int s) {
            int best = FAR;
            int ways = 0;
            if (has(on, s)) {
                best = 0;
                ways = 1;
            }
            for (int t = 0; t < floor.stepCount() && best > 0; t++) {
                int after = floor.after(t, on);
                int steps = at(fewest, after) + 1;
                if (after != on && steps <= best) {
                    ways = at(rows, after) + (steps == best ? ways : 0);
                    best = steps;
                }
            }
            put(fewest, on, best);
            put(rows, on, ways);
        }

        int fewestSteps(Floor floor) {
            int steps = at(fewest, floor.stood());
            return steps == FAR ? NONE : steps;
        }

        int lowestFirstStep(Floor floor) {
            int stood = floor.stood();
            int steps = fewestSteps(floor);
            for (int t = 0; t < floor.stepCount() && steps > 0; t++) {
                int after = floor.after(t, stood);
                if (after != stood && at(fewest, after) == steps - 1) {
                    return t;
                }
            }
            return NONE;
        }

        int howManyRows(Floor floor) {
            return fewestSteps(floor) == NONE ? NONE : at(rows, floor.stood());
        }

        static int rounds(Floor floor, int s) {
            int on = floor.stood();
            for (int times = 0; times <= MOST_STONES; times++) {
                if (has(on, s)) {
                    return times;
                }
                on = afterAllAtOnce(floor, on);
            }
            return NONE;
        }

        private static int afterAllAtOnce(Floor floor, int on) {
            int all = on;
            for (int t = 0; t < floor.stepCount(); t++) {
                all |= floor.after(t, on);
            }
            return all;
        }
    }

    /** What the stones on which one begins lead to. */
    private static final class Beginnings {
        // An aim is a stone's number, or one of these.
        private static final int HALL = -1, NO_HALL = -2;

        static boolean leadTo(Floor floor, int s) {
            return isMet(floor, s, floor.beginnings());
        }

        static boolean leadIntoHall(Floor floor) {
            return isMet(floor, HALL, floor.beginnings());
        }

        static int neededFor(Floor floor, int s) {
            int needed = 0;
            for (int b = 0; b < floor.stoneCount(); b++) {
                int others = floor.beginnings() & ~(1 << b);
                if (has(floor.beginnings(), b) && !isMet(floor, s, others)) {
                    needed |= 1 << b;
                }
            }
            return needed;
        }

        static int fewestFor(Floor floor, int s) {
            return fewestTurned(floor, s, 0, floor.beginnings());
        }

        static int lostBy(Floor floor, int s) {
            int without = floor.there() & ~(1 << s);
            int left = floor.reachBy(floor.beginnings(), ALL_STEPS, without);
            return floor.reachOf(floor.beginnings()) & ~left & without;
        }

        static int fewestMoreFor(Floor floor, int s) {
            // To begin once more on a beginning helps nothing: no fewest set holds one.
            int others = floor.there() & ~(1 << s) & ~floor.beginnings();
            return fewestTurned(floor, s, floor.beginnings(), others);
        }

        static int fewestIntoHall(Floor floor) {
            return fewestTurned(floor, HALL, 0, floor.beginnings());
        }

        static int fewestToRopeOff(Floor floor) {
            return fewestTurned(floor, NO_HALL, floor.beginnings(), floor.beginnings());
        }

        /**
         * The fewest stones of the choice, of several sets the lowest, that meet
         * the aim when they are turned in the start: put in, or left out if in it.
         */
        private static int fewestTurned(Floor floor, int aim, int start, int choice) {
            // The more are turned, the sooner an aim is met.
            if (!isMet(floor, aim, start ^ choice)) {
                return NONE;
            }
            int best = choice;
            int size = Integer.bitCount(choice);
            for (int set = 0; set < choice; set++) {
                int stones = Integer.bitCount(set);
                if (stones < size && holdsAll(choice, set) && isMet(floor, aim, start ^ set)) {
                    best = set;
                    size = stones;
                }
            }
            return best;
        }

        private static boolean isMet(Floor floor, int aim, int start) {
            int reached = floor.reachBy(start, ALL_STEPS, floor.there());
            if (aim == HALL) {
                return floor.hasGainsayersIn(reached);
            }
            if (aim == NO_HALL) {
                return !floor.hasGainsayersIn(reached);
            }
            return has(reached, aim);
        }
    }

    /** How the steps lie to one another, whatever is stood on or there. */
    private static final class Shape {

        static int idleSteps(Floor floor) {
            int idle = 0;
            for (int t = 0; t < floor.stepCount(); t++) {
                int others = ALL_STEPS & ~(1 << t);
                int reached = floor.reachBy(floor.originsOf(t), others, floor.allStones());
                if (has(reached, floor.endOf(t))) {
                    idle |= 1 << t;
                }
            }
            return idle;
        }

        static int lowestInCircle(Floor floor) {
            for (int s = 0; s < floor.stoneCount(); s++) {
                if (has(everBehind(floor, s), s)) {
                    return s;
                }
            }
            return NONE;
        }

        private static int everBehind(Floor floor, int s) {
            int behind = floor.directlyBehind(1 << s);
            for (int turn = 0; turn < MOST_STONES; turn++) {
                behind |= floor.directlyBehind(behind);
            }
            return behind;
        }

        static int depth(Floor floor) {
            int ends = floor.allStones();
            for (int steps = 0; steps < MOST_STONES; steps++) {
                ends = floor.directlyBehind(ends);
                if (ends == 0) {
                    return steps;
                }
            }
            // More steps than that one behind the other pass a stone twice.
            return NONE;
        }
    }

    /** The reach of the beginnings by every set of steps, and the proofs among these sets. */
    private static final class ProofRows {
        private final int[] reaches = new int[1 << MOST_STEPS];
        private int sets;

        void reckon(Floor floor) {
            sets = 1 << floor.stepCount();
            put(reaches, 0, floor.beginnings());
            for (int steps = 1; steps < sets; steps++) {
                int fewer = at(reaches, steps & (steps - 1));
                int added = Integer.numberOfTrailingZeros(steps);
                // If the one step more leads nowhere new, nothing new opens by it.
                int reached = floor.after(added, fewer) == fewer
                        ? fewer : floor.reachBy(fewer, steps, floor.there());
                put(reaches, steps, reached);
            }
        }

        private boolean isProof(int steps, int s) {
            if (!has(at(reaches, steps), s)) {
                return false;
            }
            for (int t = 0; t < MOST_STEPS; t++) {
                if (has(steps, t) && has(at(reaches, steps & ~(1 << t)), s)) {
                    return false;
                }
            }
            return true;
        }

        int howMany(int s) {
            int proofs = 0;
            for (int steps = 0; steps < sets; steps++) {
                if (isProof(steps, s)) {
                    proofs++;
                }
            }
            return proofs;
        }

        int shortest(int s) {
            int best = NONE;
            int size = MOST_STEPS + 1;
            for (int steps = 0; steps < sets; steps++) {
                if (Integer.bitCount(steps) < size && isProof(steps, s)) {
                    best = steps;
                    size = Integer.bitCount(steps);
                }
            }
            return best;
        }

        int inAll(int s) {
            int common = ALL_STEPS;
            boolean any = false;
            for (int steps = 0; steps < sets; steps++) {
                if (isProof(steps, s)) {
                    common &= steps;
                    any = true;
                }
            }
            return any ? common : 0;
        }

        int howManyWear(Floor floor, int s, int set) {
            int proofs = 0;
            for (int steps = 0; steps < sets; steps++) {
                if (endsOf(floor, steps) == set && isProof(steps, s)) {
                    proofs++;
                }
            }
            return proofs;
        }

        private static int endsOf(Floor floor, int steps) {
            int ends = 0;
            for (int t = 0; t < floor.stepCount(); t++) {
                if (has(steps, t)) {
                    ends |= 1 << floor.endOf(t);
                }
            }
            return ends;
        }
    }
}
