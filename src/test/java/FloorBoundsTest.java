/** Each sentence of DOC.md on stones, steps and beginnings that names a boundary case: promises 6 to 22. */
public final class FloorBoundsTest {
    private static final int[] FAR = {Integer.MIN_VALUE, Integer.MIN_VALUE + 1, -32, -2, 11, 31, 32, 33, 64, 1024,
        Integer.MAX_VALUE};
    private static final String CHAIN =
            "n10;a0;t0,0,1;t1,1,2;t2,2,3;t3,3,4;t4,4,5;t5,5,6;t6,6,7;t7,7,8;t8,8,9;";
    private static final String TURNED_CHAIN =
            "n10;a9;t1,1,0;t2,2,1;t3,3,2;t4,4,3;t5,5,4;t6,6,5;t7,7,6;t8,8,7;t9,9,8;";
    /** Each pair of two needs both: 0 and 1, 2 and 3, both of these, with 4 on top. */
    private static final String ALL_FIVE =
            "n9;a0;a1;a2;a3;a4;t0,1,5;t2,3,6;t5,6,7;t7,4,8;";

    public static void main(String[] args) {
        Due.bound("BAD: a number is none that is told (STONES, STEPS: such as there are", FloorBoundsTest::bad);
        Due.bound("a set of STONES may be 0", FloorBoundsTest::sets);
        Due.bound("A STONE is there, or its SLAB is out. STOOD on are at first those on which one BEGINS.",
                FloorBoundsTest::atFirst);
        Due.bound("A STEP MAY be gone, if its A, B and C are there, A and B are STOOD on, C is not",
                FloorBoundsTest::mayBeGone);
        Due.bound("C is STOOD on then, and worn by 1 more (above 99, too).", FloorBoundsTest::worn);
        Due.bound("A STEP is gone: how many STONES are STOOD on. BAD; NO.", FloorBoundsTest::go);
        Due.bound("The SLAB of a STONE that is there can be taken out: it is not STOOD on any more.",
                FloorBoundsTest::outIsNotStoodOn);
        Due.bound("A SLAB is taken out: how many STONES are there still. BAD; NO: it is out.", FloorBoundsTest::takeOut);
        Due.bound("One more STEP can be laid (10 at most).", FloorBoundsTest::laidUpToTen);
        Due.bound("A STEP more: its number. BAD (as in THE TEXT); FULL.", FloorBoundsTest::lay);
        Due.bound("UNDONE is the latest go(), takeOut(), lay() (the last 8 can be)", FloorBoundsTest::undoEight);
        Due.bound("the told row is empty then.", FloorBoundsTest::undoneRow);
        Due.bound("UNDONE: how many more can be. NO.", FloorBoundsTest::undo);
        Due.bound("REACH of a set of STONES (bits): all of it that are there, and all to which, STOOD on these alone, "
                + "STEPS that MAY be gone lead, one behind the other.", FloorBoundsTest::reach);
        Due.bound("BEGINNINGS are those on which one BEGINS, that are there.", FloorBoundsTest::beginnings);
        Due.bound("(0: it is)", FloorBoundsTest::walkOfNone);
        Due.bound("the first of them, of all rows of so few the lowest; how many such rows there are; none.",
                FloorBoundsTest::walk);
        Due.bound("behind how many such times it is first STOOD on; none.", FloorBoundsTest::round);
        Due.bound("those of them (bits) without each of which alone it is not in the REACH of the others; the fewest "
                + "of them (the set, of several the lowest) in whose REACH it is; none.", FloorBoundsTest::needs);
        Due.bound("the STONES but itself (bits) in the REACH of BEGINNINGS that would not be, were it out.",
                FloorBoundsTest::lost);
        Due.bound("the fewest STONES but itself that are there (the set, of several the lowest) on which one would "
                + "have to BEGIN as well so that it were in the REACH of all; none.", FloorBoundsTest::begin);
        Due.bound("1, if two that GAINSAY are both in the REACH of BEGINNINGS, 0; the fewest of these (the set, of "
                + "several the lowest) by whose REACH it is so; none.", FloorBoundsTest::hall);
        Due.bound("the fewest BEGINNINGS (the set, of several the lowest) without which it is not so.",
                FloorBoundsTest::rope);
        Due.bound("each one's C is in the REACH of its A and B by the other STEPS alone, were all SLABS there.",
                FloorBoundsTest::idle);
        Due.bound("the lowest STONE to which STEPS lead from itself, one behind the other, each from one of its two "
                + "(whatever is STOOD on, there); none.", FloorBoundsTest::circle);
        Due.bound("how many STEPS at most are so one behind the other; none (there is a CIRCLE).",
                FloorBoundsTest::deep);
        Due.end("FloorBoundsTest");
    }

    private static void badStone(FloorOfProofs x, int s) {
        for (int what = 0; what < 5; what++) {
            Due.due("stone(" + s + ", " + what + ")", x.stone(s, what), Due.BAD);
        }
        for (int what = 0; what < 3; what++) {
            Due.due("walk(" + s + ", " + what + ")", x.walk(s, what), Due.BAD);
            Due.due("proofs(" + s + ", " + what + ")", x.proofs(s, what), Due.BAD);
        }
        for (int what = 0; what < 2; what++) {
            Due.due("needs(" + s + ", " + what + ")", x.needs(s, what), Due.BAD);
        }
        Due.due("takeOut(" + s + ")", x.takeOut(s), Due.BAD);
        Due.due("round(" + s + ")", x.round(s), Due.BAD);
        Due.due("lost(" + s + ")", x.lost(s), Due.BAD);
        Due.due("begin(" + s + ")", x.begin(s), Due.BAD);
        Due.due("worn(" + s + ", 0)", x.worn(s, 0), Due.BAD);
        Due.due("lay(" + s + ", 0, 1)", x.lay(s, 0, 1), Due.BAD);
        Due.due("lay(0, " + s + ", 1)", x.lay(0, s, 1), Due.BAD);
        Due.due("lay(0, 1, " + s + ")", x.lay(0, 1, s), Due.BAD);
    }

    private static void badStep(FloorOfProofs x, int t) {
        for (int what = 0; what < 4; what++) {
            Due.due("step(" + t + ", " + what + ")", x.step(t, what), Due.BAD);
        }
        Due.due("go(" + t + ")", x.go(t), Due.BAD);
        Due.due("tell(" + t + ")", x.tell(t), Due.BAD);
    }

    private static void badWhat(FloorOfProofs x, int what) {
        if (what > 4 || what < 0) {
            Due.due("stone(0, " + what + ")", x.stone(0, what), Due.BAD);
        }
        if (what > 3 || what < 0) {
            Due.due("step(0, " + what + ")", x.step(0, what), Due.BAD);
        }
        if (what > 2 || what < 0) {
            Due.due("walk(0, " + what + ")", x.walk(0, what), Due.BAD);
            Due.due("proofs(0, " + what + ")", x.proofs(0, what), Due.BAD);
        }
        if (what > 1 || what < 0) {
            Due.due("needs(0, " + what + ")", x.needs(0, what), Due.BAD);
            Due.due("hall(" + what + ")", x.hall(what), Due.BAD);
            Due.due("year(0, 1, " + what + ")", x.year(0, 1, what), Due.BAD);
        }
        if (what > 7 || what < 0) {
            Due.due("count(" + what + ")", x.count(what), Due.BAD);
        }
    }

    private static void bad() {
        for (int n = 2; n <= 10; n++) {
            FloorOfProofs x = Due.floor("n" + n + ";a0;t0,0,1;");
            badStone(x, n);
            badStone(x, -1);
            for (int s : FAR) {
                badStone(x, s);
            }
            Due.due("nothing changes: count(2)", x.count(2), n);
            Due.due("nothing changes: count(1)", x.count(1), 1);
        }
        // A number that was a stone on the floor before is none now.
        FloorOfProofs y = Due.floor("n10;a0;t0,0,1;");
        Due.lay(y, "n3;a0;t0,0,1;");
        badStone(y, 3);
        for (int steps = 1; steps <= 10; steps++) {
            FloorOfProofs x = Due.floor("a0;" + "t0,0,1;".repeat(steps));
            badStep(x, steps);
            badStep(x, -1);
            for (int t : FAR) {
                badStep(x, t);
            }
            Due.due("the last one is told: tell(" + (steps - 1) + ")", x.tell(steps - 1), 1);
            Due.due("the last one may be gone: go(" + (steps - 1) + ")", x.go(steps - 1), 2);
        }
        FloorOfProofs x = Due.floor(CHAIN);
        for (int what = -1; what < 9; what++) {
            badWhat(x, what);
        }
        for (int what : FAR) {
            badWhat(x, what);
        }
        // The last ones that are told.
        Due.due("stone(0, 4)", x.stone(0, 4), 0);
        Due.due("step(0, 3)", x.step(0, 3), 1);
        Due.due("walk(0, 2)", x.walk(0, 2), 1);
        Due.due("proofs(1, 2)", x.proofs(1, 2), 1);
        Due.due("needs(9, 1)", x.needs(9, 1), 1);
        Due.due("hall(1)", x.hall(1), Due.NONE);
        Due.due("count(7)", x.count(7), CHAIN.length());
    }

    private static void sets() {
        for (int n = 2; n <= 10; n++) {
            FloorOfProofs x = Due.floor("n" + n + ";a0;t0,0,1;");
            int all = (1 << n) - 1;
            Due.due("n" + n + ": reach(0)", x.reach(0), 0);
            Due.due("n" + n + ": reach(" + all + ")", x.reach(all), all);
            Due.due("n" + n + ": reach(" + (all & ~3) + ")", x.reach(all & ~3), all & ~3);
            Due.due("n" + n + ": worn(0, 0)", x.worn(0, 0), 1);
            Due.due("n" + n + ": worn(1, 0)", x.worn(1, 0), 0);
            Due.due("n" + n + ": worn(1, 2)", x.worn(1, 2), 1);
            Due.due("n" + n + ": worn(0, " + all + ")", x.worn(0, all), 0);
            for (int set : new int[] {all + 1, all + 2, all + 3, -1, -2, 1 << 10, 1 << 30, Integer.MIN_VALUE,
                Integer.MIN_VALUE | 2, Integer.MAX_VALUE}) {
                Due.due("n" + n + ": reach(" + set + ")", x.reach(set), Due.BAD);
                Due.due("n" + n + ": worn(1, " + set + ")", x.worn(1, set), Due.BAD);
            }
        }
        // Stones that are out may stand in a set.
        FloorOfProofs x = Due.floor("n3;a0;t0,0,1;");
        x.takeOut(2);
        Due.due("2 out: reach(7)", x.reach(7), 3);
        Due.due("2 out: reach(4)", x.reach(4), 0);
        Due.due("2 out: worn(1, 4)", x.worn(1, 4), 0);
    }

    private static void atFirst() {
        FloorOfProofs x = Due.floor("n10;a0;a9;t0,9,5;");
        for (int s = 0; s < 10; s++) {
            Due.due("stone(" + s + ", 0)", x.stone(s, 0), 1);
            Due.due("stone(" + s + ", 1)", x.stone(s, 1), s % 9 == 0 ? 1 : 0);
            Due.due("stone(" + s + ", 2)", x.stone(s, 2), s % 9 == 0 ? 1 : 0);
        }
        x.takeOut(9);
        Due.due("9 out: stone(9, 0)", x.stone(9, 0), 0);
        Due.due("9 out: stone(9, 1)", x.stone(9, 1), 0);
        Due.due("9 out: one begins on it still, stone(9, 2)", x.stone(9, 2), 1);
    }

    // How a stone stands: 0 out, 1 there and not stood on, 2 stood on.
    private static FloorOfProofs standing(String step, int... how) {
        StringBuilder text = new StringBuilder();
        for (int s = 0; s < how.length; s++) {
            if (how[s] == 2) {
                text.append('a').append(s).append(';');
            }
        }
        FloorOfProofs x = Due.floor(text + step);
        for (int s = 0; s < how.length; s++) {
            if (how[s] == 0) {
                x.takeOut(s);
            }
        }
        return x;
    }

    private static void mayBeGone() {
        for (int a = 0; a < 3; a++) {
            for (int c = 0; c < 3; c++) {
                for (int b = 0; b < 3; b++) {
                    FloorOfProofs x = standing("t0,1,2;", a, b, c);
                    boolean may = a == 2 && b == 2 && c == 1;
                    String as = " as " + a + b + c + " stand";
                    Due.due("step(0, 3)" + as, x.step(0, 3), may ? 1 : 0);
                    x.tell(0);
                    Due.due("judge()" + as, x.judge(), may ? Due.NONE : 0);
                    Due.due("year(0, 1, 0)" + as, x.year(0, 1, 0), may ? 1 : 0);
                    Due.due("go(0)" + as, x.go(0), may ? 3 : Due.NO);
                }
                FloorOfProofs x = standing("t0,0,2;", a, 1, c);
                boolean may = a == 2 && c == 1;
                Due.due("alike: step(0, 3) as " + a + c + " stand", x.step(0, 3), may ? 1 : 0);
                Due.due("alike: go(0) as " + a + c + " stand", x.go(0), may ? 2 : Due.NO);
            }
        }
    }

    private static void worn() {
        for (int by : new int[] {0, 1, 9, 98, 99}) {
            FloorOfProofs x = Due.floor("a0;t0,0,1;t1,1,2;w1," + by + ";");
            x.go(0);
            Due.due("w1," + by + ": stone(1, 3)", x.stone(1, 3), by + 1);
            Due.due("w1," + by + ": stone(1, 1)", x.stone(1, 1), 1);
            Due.due("w1," + by + ": stone(0, 3)", x.stone(0, 3), 0);
            Due.due("w1," + by + ": stone(2, 3)", x.stone(2, 3), 0);
            Due.due("w1," + by + ": go(0) again", x.go(0), Due.NO);
            Due.due("w1," + by + ": stone(1, 3) stays", x.stone(1, 3), by + 1);
            x.keep();
            x.undo();
            Due.due("w1," + by + ": stone(1, 3) undone", x.stone(1, 3), by);
            x.back();
            Due.due("w1," + by + ": stone(1, 3) as kept", x.stone(1, 3), by + 1);
        }
    }

    private static void go() {
        FloorOfProofs x = Due.floor(CHAIN);
        for (int t = 0; t < 9; t++) {
            if (t < 8) {
                Due.due("go(" + (t + 1) + ") too early", x.go(t + 1), Due.NO);
            }
            Due.due("go(" + t + ")", x.go(t), t + 2);
            Due.due("go(" + t + ") again", x.go(t), Due.NO);
        }
        Due.due("go(9)", x.go(9), Due.BAD);
        Due.due("go(-1)", x.go(-1), Due.BAD);
        Due.due("all are stood on: count(3)", x.count(3), 10);
    }

    private static void outIsNotStoodOn() {
        FloorOfProofs x = Due.floor("a0;t0,0,1;w0,7;");
        x.go(0);
        for (int s = 0; s < 3; s++) {
            x.takeOut(s);
            Due.due("stone(" + s + ", 0)", x.stone(s, 0), 0);
            Due.due("stone(" + s + ", 1)", x.stone(s, 1), 0);
            Due.due("count(3) behind takeOut(" + s + ")", x.count(3), s == 0 ? 1 : 0);
        }
        Due.due("worn as it was: stone(0, 3)", x.stone(0, 3), 7);
        Due.due("worn as it was: stone(1, 3)", x.stone(1, 3), 1);
    }

    private static void takeOut() {
        FloorOfProofs x = Due.floor(CHAIN);
        Due.due("takeOut(10)", x.takeOut(10), Due.BAD);
        Due.due("takeOut(-1)", x.takeOut(-1), Due.BAD);
        for (int s = 9; s >= 0; s--) {
            Due.due("takeOut(" + s + ")", x.takeOut(s), s);
            Due.due("takeOut(" + s + ") again", x.takeOut(s), Due.NO);
            Due.due("count(2)", x.count(2), s);
        }
        // With all of them out there is nothing left to get to.
        Due.due("all out: reach(1023)", x.reach(1023), 0);
        Due.due("all out: walk(0, 0)", x.walk(0, 0), Due.NONE);
        Due.due("all out: round(0)", x.round(0), Due.NONE);
        Due.due("all out: needs(0, 0)", x.needs(0, 0), Due.NONE);
        Due.due("all out: lost(0)", x.lost(0), Due.NO);
        Due.due("all out: begin(0)", x.begin(0), Due.NO);
        Due.due("all out: hall(1)", x.hall(1), Due.NONE);
        Due.due("all out: rope()", x.rope(), 0);
        Due.due("all out: proofs(0, 0)", x.proofs(0, 0), 0);
        Due.due("all out: proofs(0, 1)", x.proofs(0, 1), Due.NONE);
        Due.due("all out: year(0, 99, 1)", x.year(0, 99, 1), 0);
        Due.due("all out: deep()", x.deep(), 9);
        Due.due("undo() of the last one", x.undo(), 7);
        Due.due("count(2) behind it", x.count(2), 1);
        Due.due("takeOut(0) again", x.takeOut(0), 0);
    }

    private static void laidUpToTen() {
        for (int told = 1; told <= 10; told++) {
            FloorOfProofs x = Due.floor("t0,1,2;".repeat(told));
            for (int t = told; t < 10; t++) {
                Due.due("lay() behind " + t, x.lay(1, 0, 3), t);
            }
            Due.due("lay() behind 10", x.lay(1, 0, 3), Due.FULL);
            Due.due("count(1)", x.count(1), 10);
            Due.due("count(5)", x.count(5), Math.min(8, 10 - told));
            Due.due("step(9, 2)", x.step(9, 2), told == 10 ? 2 : 3);
        }
    }

    private static void lay() {
        for (int a = -1; a < 4; a++) {
            for (int b = -1; b < 4; b++) {
                for (int c = -1; c < 4; c++) {
                    FloorOfProofs x = Due.floor("n3;t0,1,2;");
                    FloorOfProofs full = Due.floor("n3;" + "t0,1,2;".repeat(10));
                    boolean so = a >= 0 && a < 3 && b >= 0 && b < 3 && c >= 0 && c < 3 && c != a && c != b;
                    String call = "lay(" + a + ", " + b + ", " + c + ")";
                    Due.due(call, x.lay(a, b, c), so ? 1 : Due.BAD);
                    Due.due(call + ": count(1)", x.count(1), so ? 2 : 1);
                    Due.due(call + ": step(1, 0)", x.step(1, 0), so ? a : Due.BAD);
                    Due.due(call + ": step(1, 1)", x.step(1, 1), so ? b : Due.BAD);
                    Due.due(call + ": step(1, 2)", x.step(1, 2), so ? c : Due.BAD);
                    Due.due(call + " at 10", full.lay(a, b, c), so ? Due.FULL : Due.BAD);
                }
            }
        }
        // What is out can be laid to and from, as in the text.
        FloorOfProofs x = Due.floor("n3;a0;t0,1,2;");
        x.takeOut(0);
        x.takeOut(1);
        x.takeOut(2);
        Due.due("all out: lay(0, 1, 2)", x.lay(0, 1, 2), 1);
        Due.due("all out: step(1, 3)", x.step(1, 3), 0);
    }

    // Of a kind (0 go, 1 takeOut of one stood on, 2 takeOut of one not stood on, 3 lay) one change.
    private static void change(FloorOfProofs x, int kind) {
        int[] answers = {3, 9, 9, 1};
        int answer = kind == 0 ? x.go(0) : kind == 1 ? x.takeOut(1) : kind == 2 ? x.takeOut(3) : x.lay(0, 0, 1);
        Due.due("change " + kind, answer, answers[kind]);
    }

    private static void undoEight() {
        for (int kind = 0; kind < 4; kind++) {
            for (int more = 0; more < 10; more++) {
                FloorOfProofs x = Due.floor("n10;a0;a1;t0,1,2;w2,99;");
                String before = State.all(x);
                change(x, kind);
                String changed = State.all(x);
                for (int i = 0; i < more; i++) {
                    Due.due("change " + i, i % 2 == 0 ? x.takeOut(9 - i / 2) : x.lay(9, 8, 7), i % 2 == 0
                            ? x.count(2) : x.count(1) - 1);
                }
                int can = Math.min(8, more + 1);
                Due.due("count(5) behind " + (more + 1), x.count(5), can);
                for (int left = can - 1; left >= 0; left--) {
                    Due.due("undo() of " + (left + 1), x.undo(), left);
                }
                Due.due("undo() of none", x.undo(), Due.NO);
                // The ninth from behind stays.
                String at = "kind " + kind + ", then " + more + " more, undone";
                Due.due(at + ": as before", State.all(x).equals(before) ? 1 : 0, more < 8 ? 1 : 0);
                Due.due(at + ": count(5)", x.count(5), 0);
                if (more == 8) {
                    String stays = changed.replaceFirst("^(count( \\d+){5}) 1 ", "$1 0 ");
                    Due.due(at + ": the first change stays", State.all(x).equals(stays) ? 1 : 0, 1);
                }
            }
        }
    }

    private static void undoneRow() {
        for (int kind = 0; kind < 4; kind++) {
            FloorOfProofs x = Due.floor("n10;a0;a1;t0,1,2;");
            for (int i = 0; i < 12; i++) {
                x.tell(0);
            }
            change(x, kind);
            Due.due("kind " + kind + " gone: count(4)", x.count(4), 12);
            Due.due("kind " + kind + ": undo()", x.undo(), 0);
            Due.due("kind " + kind + " undone: count(4)", x.count(4), 0);
            Due.due("kind " + kind + " undone: judge()", x.judge(), Due.NONE);
            Due.due("kind " + kind + " undone: tell(0)", x.tell(0), 1);
            Due.due("kind " + kind + ": undo() refused", x.undo(), Due.NO);
            Due.due("kind " + kind + " refused: count(4)", x.count(4), 1);
        }
        // The step that the row tells is no more.
        FloorOfProofs x = Due.floor("a0;t0,0,1;");
        x.lay(0, 0, 2);
        x.tell(1);
        x.undo();
        Due.due("judge() of a step that is no more", x.judge(), Due.NONE);
        Due.due("tell(1) of a step that is no more", x.tell(1), Due.BAD);
    }

    private static void undo() {
        FloorOfProofs x = Due.floor("n4;a0;t0,0,1;t1,1,0;");
        Due.due("undo() of none", x.undo(), Due.NO);
        Due.due("count(5)", x.count(5), 0);
        // What is refused and what only asks is nothing to undo.
        x.go(1);
        x.go(9);
        x.takeOut(9);
        x.lay(0, 0, 0);
        x.tell(0);
        x.keep();
        x.year(0, 9, 0);
        x.write(1, 'a');
        Due.due("undo() of what is refused", x.undo(), Due.NO);
        x.go(0);
        Due.due("undo() of one", x.undo(), 0);
        Due.due("undo() again", x.undo(), Due.NO);
        // What is undone is not gone again by another undo().
        x.takeOut(0);
        x.undo();
        x.takeOut(1);
        Due.due("undo() of the latest alone", x.undo(), 0);
        Due.due("count(2)", x.count(2), 4);
    }

    private static void reach() {
        FloorOfProofs chain = Due.floor(CHAIN);
        FloorOfProofs turned = Due.floor(TURNED_CHAIN);
        for (int s = 0; s < 10; s++) {
            Due.due("reach of " + s, chain.reach(1 << s), 1023 & -(1 << s));
            Due.due("turned: reach of " + s, turned.reach(1 << s), (2 << s) - 1);
        }
        // Stood on these alone: what is stood on already does not help.
        FloorOfProofs x = Due.floor("n4;a0;a1;t0,1,2;t2,2,3;");
        x.go(0);
        Due.due("reach of 0", x.reach(1), 1);
        Due.due("reach of 1", x.reach(2), 2);
        Due.due("reach of 0, 1", x.reach(3), 15);
        // A step whose C is in the set is none that may be gone, and none is needed.
        Due.due("reach of 3", x.reach(8), 8);
        x.takeOut(2);
        Due.due("2 out: reach of 0, 1", x.reach(3), 3);
        Due.due("2 out: reach of 2", x.reach(4), 0);
        Due.due("2 out: reach of 2, 3", x.reach(12), 8);
        Due.due("2 out: reach of all", x.reach(15), 11);
        x.takeOut(0);
        x.undo();
        x.undo();
        Due.due("undone: reach of 2", x.reach(4), 12);
    }

    private static void beginnings() {
        FloorOfProofs x = Due.floor("n5;t0,0,1;x0,1;");
        Due.due("none: needs(1, 0)", x.needs(1, 0), Due.NONE);
        Due.due("none: lost(0)", x.lost(0), 0);
        Due.due("none: hall(0)", x.hall(0), 0);
        Due.due("none: rope()", x.rope(), 0);
        Due.due("none: proofs(0, 0)", x.proofs(0, 0), 0);
        x = Due.floor("n5;a0;a4;t0,0,1;t4,4,1;x0,1;");
        x.takeOut(0);
        Due.due("0 out: needs(1, 0)", x.needs(1, 0), Due.bits(4));
        Due.due("0 out: needs(1, 1)", x.needs(1, 1), Due.bits(4));
        Due.due("0 out: needs(0, 0)", x.needs(0, 0), Due.NONE);
        Due.due("0 out: lost(4)", x.lost(4), Due.bits(1));
        Due.due("0 out: hall(0)", x.hall(0), 0);
        Due.due("0 out: proofs(1, 1)", x.proofs(1, 1), Due.bits(1));
        x.undo();
        Due.due("0 there: needs(1, 0)", x.needs(1, 0), 0);
        Due.due("0 there: lost(4)", x.lost(4), 0);
        Due.due("0 there: hall(0)", x.hall(0), 1);
        // One that is stood on, but that one does not begin on, is none of them.
        x = Due.floor("n3;a0;t0,0,1;t1,1,2;");
        x.go(0);
        x.takeOut(0);
        Due.due("1 stood on: needs(2, 0)", x.needs(2, 0), Due.NONE);
        Due.due("1 stood on: lost(1)", x.lost(1), 0);
        Due.due("1 stood on: proofs(2, 0)", x.proofs(2, 0), 0);
        Due.due("1 stood on: begin(2)", x.begin(2), Due.bits(1));
        Due.due("1 stood on: walk(2, 0)", x.walk(2, 0), 1);
    }

    private static void walk(FloorOfProofs x, int s, int steps, int first, int rows) {
        Due.due("walk(" + s + ", 0)", x.walk(s, 0), steps);
        Due.due("walk(" + s + ", 1)", x.walk(s, 1), first);
        Due.due("walk(" + s + ", 2)", x.walk(s, 2), rows);
    }

    private static void walkOfNone() {
        FloorOfProofs x = Due.floor("a0;t0,0,1;t1,1,0;");
        walk(x, 0, 0, Due.NONE, 1);
        x.go(0);
        walk(x, 1, 0, Due.NONE, 1);
        x.takeOut(1);
        walk(x, 1, Due.NONE, Due.NONE, Due.NONE);
        x.undo();
        x.undo();
        walk(x, 1, 1, 0, 1);
    }

    private static void walk() {
        FloorOfProofs x = Due.floor(CHAIN);
        for (int s = 1; s < 10; s++) {
            walk(x, s, s, 0, 1);
        }
        x = Due.floor(TURNED_CHAIN);
        for (int s = 0; s < 9; s++) {
            walk(x, s, 9 - s, 8, 1);
        }
        // Ten alike: the first is the lowest, each is a row.
        x = Due.floor("n2;a0;" + "t0,0,1;".repeat(10));
        walk(x, 1, 1, 0, 10);
        // The lowest first is not the lowest step that may be gone: step 0 is no help.
        x = Due.floor("n5;a0;t0,0,4;t0,0,1;t0,0,2;t1,2,3;");
        walk(x, 3, 3, 1, 2);
        // A short row of high steps goes before a long one of low ones.
        x = Due.floor("n6;a0;t0,0,1;t1,1,2;t2,2,3;t0,0,4;t4,4,3;");
        walk(x, 3, 2, 3, 1);
        x = Due.floor("n10;a0;t0,0,1;t0,0,2;t0,0,3;t0,0,4;t0,0,5;t1,2,6;t3,4,7;t6,7,8;t5,8,9;");
        // Seven steps lead to 8, in 80 orders; on to 9, one more comes at any of 8 places among them.
        walk(x, 8, 7, 0, 80);
        walk(x, 9, 9, 0, 640);
        // None: no step to it; a step that may never be gone; its slab is out.
        x = Due.floor("n5;a0;t0,0,1;t0,2,3;t3,3,2;");
        walk(x, 4, Due.NONE, Due.NONE, Due.NONE);
        walk(x, 3, Due.NONE, Due.NONE, Due.NONE);
        x.takeOut(1);
        walk(x, 1, Due.NONE, Due.NONE, Due.NONE);
    }

    private static void round() {
        FloorOfProofs chain = Due.floor(CHAIN);
        FloorOfProofs turned = Due.floor(TURNED_CHAIN);
        for (int s = 0; s < 10; s++) {
            Due.due("round(" + s + ")", chain.round(s), s);
            Due.due("turned: round(" + s + ")", turned.round(s), 9 - s);
        }
        // All at once, with whatever else is gone.
        FloorOfProofs x = Due.floor("n6;a0;t0,0,1;t0,0,2;t0,0,3;t1,2,4;t3,4,5;");
        int[] times = {0, 1, 1, 1, 2, 3};
        for (int s = 0; s < times.length; s++) {
            Due.due("at once: round(" + s + ")", x.round(s), times[s]);
        }
        x = Due.floor("n5;a0;t0,0,1;t0,2,3;t3,3,2;");
        Due.due("no step to it: round(4)", x.round(4), Due.NONE);
        Due.due("never gone: round(3)", x.round(3), Due.NONE);
        x.takeOut(1);
        Due.due("out: round(1)", x.round(1), Due.NONE);
        x.takeOut(0);
        Due.due("out, begun on: round(0)", x.round(0), Due.NONE);
    }

    private static void needs(FloorOfProofs x, int s, int each, int fewest) {
        Due.due("needs(" + s + ", 0)", x.needs(s, 0), each);
        Due.due("needs(" + s + ", 1)", x.needs(s, 1), fewest);
    }

    private static void needs() {
        FloorOfProofs x = Due.floor(ALL_FIVE);
        needs(x, 8, 31, 31);
        needs(x, 7, 15, 15);
        needs(x, 6, 12, 12);
        needs(x, 0, 1, 1);
        x.takeOut(4);
        needs(x, 8, Due.NONE, Due.NONE);
        needs(x, 4, Due.NONE, Due.NONE);
        needs(x, 7, 15, 15);
        // A stone that one begins on, and that another beginning leads to: of the two sets of one the lowest.
        x = Due.floor("a0;a3;t0,0,3;");
        needs(x, 3, 0, Due.bits(0));
        x = Due.floor("a0;a3;t3,3,0;");
        needs(x, 0, 0, Due.bits(0));
        needs(x, 3, Due.bits(3), Due.bits(3));
        // Of several as few the lowest: by its bits, not by how it comes about.
        x = Due.floor("n7;a0;a1;a2;a3;t0,3,5;t1,2,5;");
        needs(x, 5, 0, Due.bits(1, 2));
        x = Due.floor("n7;a0;a1;a2;a3;t1,3,5;t0,3,5;");
        needs(x, 5, Due.bits(3), Due.bits(0, 3));
        // Ten beginnings.
        x = Due.floor("n10;a0;a1;a2;a3;a4;a5;a6;a7;a8;a9;t0,0,9;t8,8,9;");
        needs(x, 9, 0, Due.bits(0));
        needs(x, 8, Due.bits(8), Due.bits(8));
    }

    private static void lost() {
        FloorOfProofs x = Due.floor(CHAIN);
        for (int s = 0; s < 10; s++) {
            Due.due("lost(" + s + ")", x.lost(s), 1023 & -(2 << s));
        }
        x = Due.floor(TURNED_CHAIN);
        for (int s = 0; s < 10; s++) {
            Due.due("turned: lost(" + s + ")", x.lost(s), (1 << s) - 1);
        }
        x = Due.floor(CHAIN + "a9;");
        Due.due("9 begun on: lost(0)", x.lost(0), 510);
        Due.due("9 begun on: lost(9)", x.lost(9), 0);
        // One that is in no reach loses nothing; one that is out is asked for nothing.
        x = Due.floor("n5;a0;t0,0,1;t4,4,3;");
        Due.due("in no reach: lost(4)", x.lost(4), 0);
        x.takeOut(4);
        Due.due("out: lost(4)", x.lost(4), Due.NO);
        x.takeOut(0);
        Due.due("out: lost(0)", x.lost(0), Due.NO);
        Due.due("no beginning there: lost(1)", x.lost(1), 0);
        Due.due("nothing changes: count(2)", x.count(2), 3);
    }

    private static void begin() {
        FloorOfProofs x = Due.floor("n10;a0;t0,0,1;t8,9,2;t5,5,4;t1,6,3;");
        Due.due("begun on: begin(0)", x.begin(0), 0);
        Due.due("in reach: begin(1)", x.begin(1), 0);
        Due.due("one more: begin(3)", x.begin(3), Due.bits(6));
        Due.due("one: begin(4)", x.begin(4), Due.bits(5));
        Due.due("two: begin(2)", x.begin(2), Due.bits(8, 9));
        Due.due("no step to it: begin(5)", x.begin(5), Due.NONE);
        Due.due("nothing changes: stone(9, 2)", x.stone(9, 2), 0);
        x.takeOut(9);
        Due.due("9 out: begin(2)", x.begin(2), Due.NONE);
        Due.due("9 out: begin(9)", x.begin(9), Due.NO);
        x.takeOut(1);
        Due.due("1 out: begin(3)", x.begin(3), Due.NONE);
        x.takeOut(0);
        x.takeOut(5);
        Due.due("out, no step to it: begin(5)", x.begin(5), Due.NO);
        Due.due("out, begun on: begin(0)", x.begin(0), Due.NO);
        // Itself would do, but is none of those that are asked for.
        x = Due.floor("n3;t0,1,2;t2,2,0;");
        Due.due("itself: begin(2)", x.begin(2), Due.bits(0, 1));
        Due.due("itself: begin(0)", x.begin(0), Due.bits(2));
        Due.due("itself: begin(1)", x.begin(1), Due.NONE);
        // Of several as few the lowest.
        x = Due.floor("n10;t9,9,5;t8,8,5;t1,0,5;");
        Due.due("one goes before two: begin(5)", x.begin(5), Due.bits(8));
        x = Due.floor("n10;t2,3,5;t0,4,5;t1,4,5;");
        Due.due("the lowest of two: begin(5)", x.begin(5), Due.bits(2, 3));
        x = Due.floor(TURNED_CHAIN);
        x.takeOut(9);
        Due.due("far: begin(0)", x.begin(0), Due.bits(1));
        Due.due("the farthest: begin(8)", x.begin(8), Due.NONE);
    }

    private static void hall(FloorOfProofs x, int so, int fewest, int rope) {
        Due.due("hall(0)", x.hall(0), so);
        Due.due("hall(1)", x.hall(1), fewest);
        Due.due("rope()", x.rope(), rope);
    }

    private static void hall() {
        // Neither, one, the other, both of two in reach.
        hall(Due.floor("x2,3;t0,1,2;"), 0, Due.NONE, 0);
        hall(Due.floor("a2;x2,3;t0,1,2;"), 0, Due.NONE, 0);
        hall(Due.floor("a3;x2,3;t0,1,2;"), 0, Due.NONE, 0);
        hall(Due.floor("a2;a3;x2,3;t0,1,2;"), 1, Due.bits(2, 3), Due.bits(2));
        hall(Due.floor("a2;a3;x3,2;t0,1,2;"), 1, Due.bits(2, 3), Due.bits(2));
        hall(Due.floor("n10;a8;x0,9;t8,8,9;t9,9,0;"), 1, Due.bits(8), Due.bits(8));
        // All of five are needed; any one of them roped off will do.
        FloorOfProofs x = Due.floor(ALL_FIVE + "x8,0;");
        hall(x, 1, 31, Due.bits(0));
        x.takeOut(7);
        hall(x, 0, Due.NONE, 0);
        x.undo();
        x.takeOut(4);
        hall(x, 0, Due.NONE, 0);
        // Of several as few the lowest.
        hall(Due.floor("n6;a0;a1;a2;a3;x0,3;x1,2;t0,1,4;"), 1, Due.bits(1, 2), Due.bits(0, 1));
    }

    private static void rope() {
        hall(Due.floor("n10;a0;a1;a2;a3;a4;a5;a6;a7;a8;a9;t0,0,1;"), 0, Due.NONE, 0);
        hall(Due.floor("n10;a0;a1;a2;a3;a4;a5;a6;a7;a8;a9;t0,5,1;x0,5;x1,6;x2,7;x3,8;x4,9;"),
                1, Due.bits(0, 5), 31);
        hall(Due.floor("n10;a0;a1;a2;a3;a4;a5;a6;a7;a8;a9;t0,1,9;x9,0;x9,1;x9,2;x9,3;x9,4;"),
                1, Due.bits(0, 1), Due.bits(0, 9));
        // One that leads into it alone, and a higher one with another.
        hall(Due.floor("n6;a0;a1;a2;t1,1,3;t1,1,4;t0,2,3;t0,2,4;x3,4;"), 1, Due.bits(1), Due.bits(0, 1));
        FloorOfProofs x = Due.floor("a0;a1;x0,1;t0,1,2;");
        x.takeOut(0);
        Due.due("one of two out: rope()", x.rope(), 0);
        x.takeOut(1);
        Due.due("both out: rope()", x.rope(), 0);
    }

    private static void idle() {
        Due.due("ten alike: idle()", Due.floor("n2;" + "t0,0,1;".repeat(10)).idle(), 1023);
        Due.due("nine in a row: idle()", Due.floor(CHAIN).idle(), 0);
        Due.due("nine in a row and across: idle()", Due.floor(CHAIN + "t0,5,9;").idle(), 512);
        Due.due("nine in a row, turned, and across: idle()", Due.floor(TURNED_CHAIN + "t9,9,0;").idle(), 512);
        Due.due("one: idle()", Due.floor("n2;t0,0,1;").idle(), 0);
        FloorOfProofs x = Due.floor(CHAIN + "t0,0,9;");
        for (int s = 0; s < 10; s++) {
            x.takeOut(s);
            Due.due("out up to " + s + ": idle()", x.idle(), 512);
        }
    }

    private static void circle() {
        Due.due("none: circle()", Due.floor(CHAIN).circle(), Due.NONE);
        Due.due("one step: circle()", Due.floor("n2;t0,0,1;").circle(), Due.NONE);
        Due.due("the smallest: circle()", Due.floor("n2;t0,0,1;t1,1,0;").circle(), 0);
        Due.due("the largest: circle()", Due.floor(CHAIN + "t9,9,0;").circle(), 0);
        Due.due("the largest, turned: circle()", Due.floor(TURNED_CHAIN + "t0,0,9;").circle(), 0);
        Due.due("the highest: circle()", Due.floor("n10;t0,0,9;t9,9,8;t8,0,9;").circle(), 8);
        Due.due("by B: circle()", Due.floor("n10;t0,8,9;t1,9,8;").circle(), 8);
        Due.due("by A: circle()", Due.floor("n10;t8,0,9;t9,1,8;").circle(), 8);
        Due.due("of two the lowest: circle()", Due.floor("n10;t8,8,9;t9,9,8;t3,3,7;t7,7,3;").circle(), 3);
        FloorOfProofs x = Due.floor("n3;t1,0,2;t2,0,1;");
        Due.due("nothing stood on: circle()", x.circle(), 1);
        for (int s = 0; s < 3; s++) {
            x.takeOut(s);
            Due.due("out up to " + s + ": circle()", x.circle(), 1);
        }
    }

    private static void deep() {
        Due.due("the least: deep()", Due.floor("n2;t0,0,1;").deep(), 1);
        Due.due("ten that are not one behind the other: deep()", Due.floor("n2;" + "t0,0,1;".repeat(10)).deep(), 1);
        Due.due("the most: deep()", Due.floor(CHAIN).deep(), 9);
        Due.due("the most, turned: deep()", Due.floor(TURNED_CHAIN).deep(), 9);
        Due.due("the most, by B: deep()", Due.floor(
                "n10;t0,0,1;t0,1,2;t0,2,3;t0,3,4;t0,4,5;t0,5,6;t0,6,7;t0,7,8;t0,8,9;").deep(), 9);
        Due.due("a circle of all: deep()", Due.floor(CHAIN + "t9,9,0;").deep(), Due.NONE);
        Due.due("a circle of two at its end: deep()", Due.floor(CHAIN + "t9,9,8;").deep(), Due.NONE);
        Due.due("a circle of two beside it: deep()", Due.floor("n5;t0,0,1;t1,1,2;t3,3,4;t4,4,3;").deep(), Due.NONE);
        FloorOfProofs x = Due.floor(CHAIN);
        for (int s = 0; s < 10; s++) {
            x.takeOut(s);
            Due.due("out up to " + s + ": deep()", x.deep(), 9);
        }
    }
}
