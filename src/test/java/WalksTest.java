/** Promises 13 and 14: the fewest steps to a stone, and all at once. */
public final class WalksTest {
    public static void main(String[] args) {
        walk();
        walkCounts();
        walkFromNowOn();
        walkFarthest();
        walkRefused();
        round();
        roundFromNowOn();
        roundRefused();
        Due.end("WalksTest");
    }

    private static void walk(FloorOfProofs x, int s, long steps, long first, long rows) {
        Due.due("walk(" + s + ", 0)", x.walk(s, 0), steps);
        Due.due("walk(" + s + ", 1)", x.walk(s, 1), first);
        Due.due("walk(" + s + ", 2)", x.walk(s, 2), rows);
    }

    // Promise 13
    private static void walk() {
        // 4 needs 2 (to which two steps lead) and 3; 5 lies behind 4.
        FloorOfProofs x = Due.floor("n7;a0;a1;t4,4,5;t0,0,3;t1,1,2;t3,2,4;t1,0,2;t3,3,6;");
        walk(x, 0, 0, Due.NONE, 1);
        walk(x, 2, 1, 2, 2);
        walk(x, 3, 1, 1, 1);
        // 1 and (2 or 4) in either order, then 3.
        walk(x, 4, 3, 1, 4);
        walk(x, 5, 4, 1, 4);
        walk(x, 6, 2, 1, 1);
        x.takeOut(2);
        walk(x, 2, Due.NONE, Due.NONE, Due.NONE);
        walk(x, 4, Due.NONE, Due.NONE, Due.NONE);
        walk(x, 6, 2, 1, 1);
    }

    private static void walkCounts() {
        // Alike steps are rows of their own; longer ways do not count.
        FloorOfProofs x = Due.floor("n6;a0;t1,1,2;t0,0,2;t0,0,1;t0,0,2;t2,2,3;t1,1,3;");
        walk(x, 2, 1, 1, 2);
        walk(x, 3, 2, 1, 3);
        walk(x, 4, Due.NONE, Due.NONE, Due.NONE);
        // 4 and 5 in either order, then 6.
        x = Due.floor("n7;a0;t4,5,6;t0,0,4;t0,0,5;t0,0,1;t6,6,2;t0,0,2;t2,6,3;");
        walk(x, 6, 3, 1, 2);
        // These, and 2 straight from 0 anywhere among them, or from 6 behind them.
        walk(x, 3, 5, 1, 10);
    }

    private static void walkFromNowOn() {
        FloorOfProofs x = Due.floor("n5;a0;t0,0,1;t1,1,2;t2,2,3;");
        walk(x, 3, 3, 0, 1);
        x.go(0);
        walk(x, 3, 2, 1, 1);
        // The slab that bore the way is out; what is stood on stays so.
        x.takeOut(0);
        walk(x, 3, 2, 1, 1);
        walk(x, 0, Due.NONE, Due.NONE, Due.NONE);
        x.go(1);
        x.go(2);
        walk(x, 3, 0, Due.NONE, 1);
        Due.due("nothing changes by it: count(3)", x.count(3), 3);
    }

    private static void walkFarthest() {
        FloorOfProofs x = Due.floor("n10;a0;t0,0,1;t1,1,2;t2,2,3;t3,3,4;t4,4,5;t5,5,6;t6,6,7;t7,7,8;t8,8,9;");
        walk(x, 9, 9, 0, 1);
        // Two rows of three steps, each of two orders, fall into one another in 20 ways.
        x = Due.floor("n10;a0;t0,0,1;t0,0,2;t0,0,3;t0,0,4;t1,2,5;t3,4,6;t5,6,7;t7,7,8;t8,8,9;");
        walk(x, 7, 7, 0, 80);
        walk(x, 9, 9, 0, 80);
    }

    private static void walkRefused() {
        FloorOfProofs x = Due.floor("n5;t0,0,1;");
        int[][] wrong = {{5, 0}, {-1, 0}, {0, 3}, {0, -1}, {3, 3}, {5, 5},
            {Integer.MAX_VALUE, 0}, {0, Integer.MIN_VALUE}};
        for (int[] of : wrong) {
            Due.due("walk(" + of[0] + ", " + of[1] + ")", x.walk(of[0], of[1]), Due.BAD);
        }
        walk(x, 0, Due.NONE, Due.NONE, Due.NONE);
    }

    // Promise 14
    private static void round() {
        // Told in another order than they are gone.
        FloorOfProofs x = Due.floor("n8;a0;a1;t4,4,5;t3,3,4;t2,1,3;t0,0,2;t0,1,6;t2,5,7;");
        int[] times = {0, 0, 1, 2, 3, 4, 1, 5};
        for (int s = 0; s < times.length; s++) {
            Due.due("round(" + s + ")", x.round(s), times[s]);
        }
        // Told in the order in which they are gone: what comes at a time bears only at the next.
        x = Due.floor("n6;a0;t0,0,1;t1,1,2;t2,2,3;t0,3,4;");
        int[] behind = {0, 1, 2, 3, 4, Due.NONE};
        for (int s = 0; s < behind.length; s++) {
            Due.due("in order: round(" + s + ")", x.round(s), behind[s]);
        }
        x = Due.floor("n10;a0;t0,0,1;t1,1,2;t2,2,3;t3,3,4;t4,4,5;t5,5,6;t6,6,7;t7,7,8;t8,8,9;");
        Due.due("farthest: round(9)", x.round(9), 9);
        Due.due("nothing changes by it: count(3)", x.count(3), 1);
    }

    private static void roundFromNowOn() {
        FloorOfProofs x = Due.floor("n5;a0;t0,0,1;t1,1,2;t2,2,3;");
        x.go(0);
        Due.due("round(3)", x.round(3), 2);
        x.takeOut(0);
        Due.due("0 out: round(3)", x.round(3), 2);
        Due.due("0 out: round(0)", x.round(0), Due.NONE);
        x.takeOut(2);
        Due.due("2 out: round(3)", x.round(3), Due.NONE);
        Due.due("2 out: round(2)", x.round(2), Due.NONE);
    }

    private static void roundRefused() {
        FloorOfProofs x = Due.floor("n5;t0,0,1;");
        int[] wrong = {5, -1, 10, Integer.MAX_VALUE, Integer.MIN_VALUE};
        for (int s : wrong) {
            Due.due("round(" + s + ")", x.round(s), Due.BAD);
        }
        Due.due("round(0)", x.round(0), Due.NONE);
    }
}
