/** Promises 8 to 12: steps gone, slabs taken out, steps laid, undone, what is in reach. */
public final class StepsTest {
    public static void main(String[] args) {
        go();
        goRefused();
        takeOut();
        lay();
        layRefused();
        undoEach();
        undoEight();
        undoRow();
        reach();
        reachRefused();
        Due.end("StepsTest");
    }

    // Promise 8
    private static void go() {
        FloorOfProofs x = Due.floor("n5;a0;a1;t0,1,2;t2,2,3;t0,3,4;w2,99;w3,4;");
        Due.due("go(0)", x.go(0), 3);
        Due.due("go(1)", x.go(1), 4);
        Due.due("go(2)", x.go(2), 5);
        Due.due("worn by 1 more: stone(2, 3)", x.stone(2, 3), 100);
        Due.due("worn by 1 more: stone(3, 3)", x.stone(3, 3), 5);
        Due.due("worn by 1 more: stone(4, 3)", x.stone(4, 3), 1);
        Due.due("not worn: stone(0, 3)", x.stone(0, 3), 0);
        Due.due("stone(4, 1)", x.stone(4, 1), 1);
        Due.due("count(5)", x.count(5), 3);
    }

    private static void goRefused() {
        FloorOfProofs x = Due.floor("n5;a0;t0,1,2;t1,0,2;t0,0,3;t3,3,0;t3,3,4;");
        Due.due("go(0), B not stood on", x.go(0), Due.NO);
        Due.due("go(1), A not stood on", x.go(1), Due.NO);
        Due.due("go(4), both not stood on", x.go(4), Due.NO);
        Due.due("go(5)", x.go(5), Due.BAD);
        Due.due("go(-1)", x.go(-1), Due.BAD);
        Due.due("go(lowest)", x.go(Integer.MIN_VALUE), Due.BAD);
        Due.due("count(5)", x.count(5), 0);
        Due.due("go(2)", x.go(2), 2);
        Due.due("go(3), C stood on", x.go(3), Due.NO);
        Due.due("stone(0, 3)", x.stone(0, 3), 0);
        x.takeOut(4);
        Due.due("go(4), C out", x.go(4), Due.NO);
        x.undo();
        x.takeOut(3);
        Due.due("go(4), A out", x.go(4), Due.NO);
        Due.due("count(5): what is refused is not undone", x.count(5), 2);
    }

    // Promise 9
    private static void takeOut() {
        FloorOfProofs x = Due.floor("n5;a0;a1;t0,1,2;");
        Due.due("takeOut(1)", x.takeOut(1), 4);
        Due.due("not stood on: stone(1, 1)", x.stone(1, 1), 0);
        Due.due("count(3)", x.count(3), 1);
        Due.due("takeOut(4)", x.takeOut(4), 3);
        Due.due("count(3) stays", x.count(3), 1);
        Due.due("takeOut(1) out", x.takeOut(1), Due.NO);
        Due.due("takeOut(5)", x.takeOut(5), Due.BAD);
        Due.due("takeOut(-1)", x.takeOut(-1), Due.BAD);
        Due.due("takeOut(highest)", x.takeOut(Integer.MAX_VALUE), Due.BAD);
        Due.due("count(2)", x.count(2), 3);
        Due.due("count(5)", x.count(5), 2);
        x.takeOut(0);
        x.takeOut(2);
        Due.due("takeOut(3), the last one", x.takeOut(3), 0);
        Due.due("count(3), none", x.count(3), 0);
    }

    // Promise 10
    private static void lay() {
        FloorOfProofs x = Due.floor("n5;a0;t0,0,1;");
        Due.due("lay(0, 1, 4)", x.lay(0, 1, 4), 1);
        Due.due("lay(3, 3, 2)", x.lay(3, 3, 2), 2);
        Due.due("step(1, 0)", x.step(1, 0), 0);
        Due.due("step(1, 1)", x.step(1, 1), 1);
        Due.due("step(1, 2)", x.step(1, 2), 4);
        Due.due("count(1)", x.count(1), 3);
        x.takeOut(4);
        Due.due("lay(4, 4, 0) from a slab that is out", x.lay(4, 4, 0), 3);
        Due.due("lay(0, 0, 1) once more", x.lay(0, 0, 1), 4);
        x.go(0);
        Due.due("lay(0, 0, 3)", x.lay(0, 0, 3), 5);
        Due.due("go(5) laid", x.go(5), 3);
    }

    private static void layRefused() {
        FloorOfProofs x = Due.floor("n5;a0;t0,0,1;");
        int[][] wrong = {{0, 1, 0}, {0, 1, 1}, {2, 2, 2}, {5, 0, 1}, {0, 5, 1}, {0, 1, 5},
            {-1, 0, 1}, {0, -1, 1}, {0, 1, -1}, {Integer.MIN_VALUE, 0, 1}, {0, 1, Integer.MAX_VALUE}};
        for (int[] of : wrong) {
            Due.due("lay(" + of[0] + ", " + of[1] + ", " + of[2] + ")",
                    x.lay(of[0], of[1], of[2]), Due.BAD);
        }
        Due.due("count(1)", x.count(1), 1);
        Due.due("count(5)", x.count(5), 0);
        for (int t = 1; t < 10; t++) {
            Due.due("lay the " + t + "th", x.lay(0, 1, 2), t);
        }
        Due.due("lay the 10th", x.lay(0, 1, 2), Due.FULL);
        Due.due("lay the 10th, bad", x.lay(0, 1, 1), Due.BAD);
        Due.due("count(1), full", x.count(1), 10);
        Due.due("undo()", x.undo(), 7);
        Due.due("lay again", x.lay(3, 4, 2), 9);
    }

    // Promise 11
    private static void undoEach() {
        FloorOfProofs x = Due.floor("n5;a0;t0,0,1;w1,50;");
        Due.due("undo() of nothing", x.undo(), Due.NO);
        x.go(0);
        x.takeOut(1);
        x.takeOut(4);
        x.lay(0, 0, 3);
        Due.due("undo() of lay", x.undo(), 3);
        Due.due("count(1)", x.count(1), 1);
        Due.due("step(1, 0)", x.step(1, 0), Due.BAD);
        Due.due("undo() of takeOut, not stood on", x.undo(), 2);
        Due.due("stone(4, 0)", x.stone(4, 0), 1);
        Due.due("stone(4, 1)", x.stone(4, 1), 0);
        Due.due("undo() of takeOut, stood on", x.undo(), 1);
        Due.due("stone(1, 0)", x.stone(1, 0), 1);
        Due.due("stone(1, 1)", x.stone(1, 1), 1);
        Due.due("stone(1, 3)", x.stone(1, 3), 51);
        Due.due("undo() of go", x.undo(), 0);
        Due.due("stone(1, 1) as before", x.stone(1, 1), 0);
        Due.due("stone(1, 3) as before", x.stone(1, 3), 50);
        Due.due("stone(0, 1) as before", x.stone(0, 1), 1);
        Due.due("undo() of no more", x.undo(), Due.NO);
        Due.due("go(0) again", x.go(0), 2);
    }

    private static void undoEight() {
        FloorOfProofs x = Due.floor("n10;a9;t9,9,8;");
        for (int s = 0; s < 7; s++) {
            x.takeOut(s);
        }
        x.go(0);
        Due.due("count(5) of 8", x.count(5), 8);
        x.takeOut(7);
        Due.due("count(5) of 9", x.count(5), 8);
        x.lay(0, 0, 1);
        Due.due("count(5) of 10", x.count(5), 8);
        for (int left = 7; left >= 0; left--) {
            Due.due("undo(), left", x.undo(), left);
        }
        Due.due("undo() of the 9th", x.undo(), Due.NO);
        Due.due("stone(0, 0): not undone", x.stone(0, 0), 0);
        Due.due("stone(1, 0): not undone", x.stone(1, 0), 0);
        Due.due("stone(2, 0): undone", x.stone(2, 0), 1);
        Due.due("count(2)", x.count(2), 8);
        Due.due("count(3)", x.count(3), 1);
        x.takeOut(2);
        Due.due("undo() of one more", x.undo(), 0);
    }

    private static void undoRow() {
        FloorOfProofs x = Due.floor("n5;a0;t0,0,1;");
        x.tell(0);
        x.go(0);
        x.takeOut(3);
        x.lay(0, 0, 2);
        Due.due("told row behind go, takeOut, lay: count(4)", x.count(4), 1);
        x.undo();
        Due.due("told row behind undo: count(4)", x.count(4), 0);
        x.undo();
        x.undo();
        x.tell(0);
        Due.due("undo() refused", x.undo(), Due.NO);
        Due.due("told row behind undo refused: count(4)", x.count(4), 1);
    }

    // Promise 12
    private static void reach() {
        FloorOfProofs x = Due.floor("n7;a6;t0,1,2;t4,4,5;t3,2,4;t2,2,3;");
        Due.due("reach(0)", x.reach(0), 0);
        Due.due("reach of 0", x.reach(Due.bits(0)), Due.bits(0));
        Due.due("reach of 0, 1", x.reach(Due.bits(0, 1)), Due.bits(0, 1, 2, 3, 4, 5));
        Due.due("reach of 2", x.reach(Due.bits(2)), Due.bits(2, 3, 4, 5));
        Due.due("reach of 3, 6", x.reach(Due.bits(3, 6)), Due.bits(3, 6));
        Due.due("reach of all", x.reach(127), 127);
        x.takeOut(3);
        Due.due("3 out: reach of 0, 1", x.reach(Due.bits(0, 1)), Due.bits(0, 1, 2));
        Due.due("3 out: reach of 2, 3", x.reach(Due.bits(2, 3)), Due.bits(2));
        Due.due("3 out: reach of 3", x.reach(Due.bits(3)), 0);
        Due.due("3 out: reach of all", x.reach(127), 127 & ~Due.bits(3));
        Due.due("what is stood on does not count: count(3)", x.count(3), 1);
    }

    private static void reachRefused() {
        FloorOfProofs x = Due.floor("n5;t0,0,1;");
        Due.due("reach(31)", x.reach(31), 31);
        Due.due("reach(32)", x.reach(32), Due.BAD);
        Due.due("reach(33)", x.reach(33), Due.BAD);
        Due.due("reach(-1)", x.reach(-1), Due.BAD);
        Due.due("reach(lowest)", x.reach(Integer.MIN_VALUE), Due.BAD);
        Due.due("reach(highest)", x.reach(Integer.MAX_VALUE), Due.BAD);
        Due.lay(x, "n10;t0,0,1;");
        Due.due("reach(1023)", x.reach(1023), 1023);
        Due.due("reach(1024)", x.reach(1024), Due.BAD);
        Due.lay(x, "n2;t1,1,0;");
        Due.due("reach(2)", x.reach(2), 3);
        Due.due("reach(4)", x.reach(4), Due.BAD);
    }
}
