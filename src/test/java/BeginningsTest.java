/** Promises 15 to 19: what the stones on which one begins lead to. */
public final class BeginningsTest {
    private static final String TWO_WAYS =
            "n8;a0;a1;a2;t0,1,3;t1,2,3;t3,3,4;t2,4,5;x5,0;x4,6;";

    public static void main(String[] args) {
        needs();
        needsFewest();
        needsOfWhatIsThere();
        needsRefused();
        lost();
        lostRefused();
        begin();
        beginOfWhatIsThere();
        beginRefused();
        hall();
        hallOfWhatIsThere();
        hallRefused();
        rope();
        Due.end("BeginningsTest");
    }

    private static void needs(FloorOfProofs x, int s, int each, int fewest) {
        Due.due("needs(" + s + ", 0)", x.needs(s, 0), each);
        Due.due("needs(" + s + ", 1)", x.needs(s, 1), fewest);
    }

    // Promise 15
    private static void needs() {
        FloorOfProofs x = Due.floor(TWO_WAYS);
        needs(x, 0, Due.bits(0), Due.bits(0));
        needs(x, 2, Due.bits(2), Due.bits(2));
        needs(x, 3, Due.bits(1), Due.bits(0, 1));
        needs(x, 4, Due.bits(1), Due.bits(0, 1));
        needs(x, 5, Due.bits(1, 2), Due.bits(1, 2));
        needs(x, 6, Due.NONE, Due.NONE);
        needs(x, 7, Due.NONE, Due.NONE);
    }

    private static void needsFewest() {
        // One high beginning does as well as two low ones.
        FloorOfProofs x = Due.floor("n6;a0;a1;a2;t0,1,3;t2,2,3;");
        needs(x, 3, 0, Due.bits(2));
        // Each of two leads to the other: neither is needed, the lowest does.
        x = Due.floor("n5;a0;a1;t0,0,1;t1,1,0;");
        needs(x, 0, 0, Due.bits(0));
        needs(x, 1, 0, Due.bits(0));
        // All are needed.
        x = Due.floor("n8;a1;a2;a3;a4;t1,2,5;t3,4,6;t5,6,7;");
        needs(x, 7, Due.bits(1, 2, 3, 4), Due.bits(1, 2, 3, 4));
        needs(x, 6, Due.bits(3, 4), Due.bits(3, 4));
    }

    private static void needsOfWhatIsThere() {
        FloorOfProofs x = Due.floor(TWO_WAYS);
        x.takeOut(0);
        needs(x, 0, Due.NONE, Due.NONE);
        needs(x, 3, Due.bits(1, 2), Due.bits(1, 2));
        // What is stood on does not count: 4 is, but 3 is out.
        x.go(1);
        x.go(2);
        needs(x, 4, Due.bits(1, 2), Due.bits(1, 2));
        x.takeOut(3);
        Due.due("stone(4, 1)", x.stone(4, 1), 1);
        needs(x, 4, Due.NONE, Due.NONE);
    }

    private static void needsRefused() {
        FloorOfProofs x = Due.floor(TWO_WAYS);
        int[][] wrong = {{8, 0}, {-1, 0}, {0, 2}, {0, -1}, {6, 2},
            {Integer.MAX_VALUE, 0}, {0, Integer.MIN_VALUE}};
        for (int[] of : wrong) {
            Due.due("needs(" + of[0] + ", " + of[1] + ")", x.needs(of[0], of[1]), Due.BAD);
        }
    }

    // Promise 16
    private static void lost() {
        FloorOfProofs x = Due.floor(TWO_WAYS);
        int[] lost = {0, Due.bits(3, 4, 5), Due.bits(5), Due.bits(4, 5), Due.bits(5), 0, 0, 0};
        for (int s = 0; s < lost.length; s++) {
            Due.due("lost(" + s + ")", x.lost(s), lost[s]);
        }
        Due.due("nothing changes by it: count(2)", x.count(2), 8);
        x.takeOut(0);
        Due.due("0 out: lost(2)", x.lost(2), Due.bits(3, 4, 5));
        // A beginning to which steps lead as well is lost only by its own slab.
        x = Due.floor("n4;a0;a1;t0,0,1;t1,1,2;");
        Due.due("lost(0), 1 is begun on", x.lost(0), 0);
        Due.due("lost(1)", x.lost(1), Due.bits(2));
        // What is stood on does not count.
        x.go(1);
        Due.due("lost(1), 2 stood on", x.lost(1), Due.bits(2));
    }

    private static void lostRefused() {
        FloorOfProofs x = Due.floor(TWO_WAYS);
        x.takeOut(3);
        Due.due("lost(3) out", x.lost(3), Due.NO);
        int[] wrong = {8, -1, Integer.MAX_VALUE, Integer.MIN_VALUE};
        for (int s : wrong) {
            Due.due("lost(" + s + ")", x.lost(s), Due.BAD);
        }
    }

    // Promise 17
    private static void begin() {
        FloorOfProofs x = Due.floor(TWO_WAYS);
        int[] begin = {0, 0, 0, 0, 0, 0, Due.NONE, Due.NONE};
        for (int s = 0; s < begin.length; s++) {
            Due.due("begin(" + s + ")", x.begin(s), begin[s]);
        }
        x = Due.floor("n7;a0;t1,2,3;t4,4,3;");
        Due.due("fewer goes before lower: begin(3)", x.begin(3), Due.bits(4));
        x = Due.floor("n7;t4,5,3;t1,2,3;");
        Due.due("of two the lowest: begin(3)", x.begin(3), Due.bits(1, 2));
        x = Due.floor("n7;a5;t4,5,3;t1,2,3;");
        Due.due("with those begun on: begin(3)", x.begin(3), Due.bits(4));
        x = Due.floor("n7;t5,5,1;t1,1,3;t3,3,0;");
        Due.due("far or near: begin(3)", x.begin(3), Due.bits(1));
        Due.due("not itself: begin(0)", x.begin(0), Due.bits(1));
        Due.due("no step to it: begin(5)", x.begin(5), Due.NONE);
    }

    private static void beginOfWhatIsThere() {
        FloorOfProofs x = Due.floor("n7;a2;t1,2,3;t4,5,3;");
        Due.due("begin(3)", x.begin(3), Due.bits(1));
        x.takeOut(2);
        Due.due("2 out: begin(3)", x.begin(3), Due.bits(4, 5));
        x.takeOut(5);
        Due.due("2, 5 out: begin(3)", x.begin(3), Due.NONE);
        x.undo();
        x.undo();
        // What is stood on does not count.
        x.lay(2, 2, 6);
        x.lay(6, 6, 0);
        x.go(2);
        x.takeOut(2);
        Due.due("6 stood on, but not in reach: begin(0)", x.begin(0), Due.bits(6));
    }

    private static void beginRefused() {
        FloorOfProofs x = Due.floor(TWO_WAYS);
        x.takeOut(7);
        Due.due("begin(7) out", x.begin(7), Due.NO);
        int[] wrong = {8, -1, Integer.MAX_VALUE, Integer.MIN_VALUE};
        for (int s : wrong) {
            Due.due("begin(" + s + ")", x.begin(s), Due.BAD);
        }
    }

    private static void hall(FloorOfProofs x, int so, int fewest, int rope) {
        Due.due("hall(0)", x.hall(0), so);
        Due.due("hall(1)", x.hall(1), fewest);
        Due.due("rope()", x.rope(), rope);
    }

    // Promise 18
    private static void hall() {
        hall(Due.floor(TWO_WAYS), 1, Due.bits(0, 1, 2), Due.bits(0));
        hall(Due.floor("a0;a1;x0,1;t0,1,2;"), 1, Due.bits(0, 1), Due.bits(0));
        hall(Due.floor("a0;a1;t0,1,2;"), 0, Due.NONE, 0);
        hall(Due.floor("a0;a1;x0,3;x3,1;t0,1,2;"), 0, Due.NONE, 0);
        hall(Due.floor("x0,1;t0,1,2;"), 0, Due.NONE, 0);
        hall(Due.floor("n5;a3;a0;t0,0,1;t0,0,2;x1,2;"), 1, Due.bits(0), Due.bits(0));
        // Fewer goes before lower.
        hall(Due.floor("n6;a0;a1;a2;t0,1,3;t2,2,3;t0,1,4;t2,2,4;x4,3;"),
                1, Due.bits(2), Due.bits(0, 2));
    }

    private static void hallOfWhatIsThere() {
        FloorOfProofs x = Due.floor("n8;a1;a2;a3;a4;t1,1,5;t2,2,5;t3,3,6;t4,4,6;x5,6;");
        hall(x, 1, Due.bits(1, 3), Due.bits(1, 2));
        x.takeOut(1);
        hall(x, 1, Due.bits(2, 3), Due.bits(2));
        x.go(1);
        x.go(2);
        x.takeOut(2);
        // 5 and 6 are stood on, but 5 is in no reach of beginnings.
        Due.due("stone(5, 1)", x.stone(5, 1), 1);
        Due.due("stone(6, 1)", x.stone(6, 1), 1);
        hall(x, 0, Due.NONE, 0);
        x.undo();
        x.takeOut(6);
        hall(x, 0, Due.NONE, 0);
    }

    private static void hallRefused() {
        FloorOfProofs x = Due.floor(TWO_WAYS);
        int[] wrong = {2, -1, Integer.MAX_VALUE, Integer.MIN_VALUE};
        for (int what : wrong) {
            Due.due("hall(" + what + ")", x.hall(what), Due.BAD);
        }
    }

    // Promise 19
    private static void rope() {
        // One for each of three ways.
        FloorOfProofs x = Due.floor("n9;a0;a1;a2;a8;t0,0,5;t1,1,5;t2,2,5;x5,8;");
        Due.due("one that all ways share: rope()", x.rope(), Due.bits(8));
        x.lay(0, 0, 8);
        x.lay(1, 1, 8);
        x.lay(2, 2, 8);
        Due.due("three ways: rope()", x.rope(), Due.bits(0, 1, 2));
        x.takeOut(1);
        Due.due("two ways: rope()", x.rope(), Due.bits(0, 2));
        // Two that gainsay, twice: one of each.
        x = Due.floor("n6;a2;a3;a4;a5;x4,2;x3,5;t2,3,0;");
        Due.due("two halls: rope()", x.rope(), Due.bits(2, 3));
        x = Due.floor("n6;a2;a3;a4;a5;x5,2;x3,5;t2,3,0;");
        Due.due("one that gainsays two: rope()", x.rope(), Due.bits(5));
    }
}
