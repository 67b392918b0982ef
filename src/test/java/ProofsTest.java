/** Promises 23 to 30: proofs, the told row, years, floors kept. */
public final class ProofsTest {
    private static final String THREE_PROOFS =
            "n6;a0;a1;t0,0,2;t1,1,2;t2,2,3;t0,1,3;t3,3,4;";

    public static void main(String[] args) {
        proofs();
        proofsLowest();
        proofsMany();
        proofsOfWhatIsThere();
        proofsRefused();
        worn();
        wornRefused();
        tell();
        noRow();
        judge();
        judgeFromNowOn();
        year();
        yearOfEveryStep();
        yearRefused();
        keep();
        back();
        backOfEach();
        backRefused();
        Due.end("ProofsTest");
    }

    private static void proofs(FloorOfProofs x, int s, int many, int shortest, int inAll) {
        Due.due("proofs(" + s + ", 0)", x.proofs(s, 0), many);
        Due.due("proofs(" + s + ", 1)", x.proofs(s, 1), shortest);
        Due.due("proofs(" + s + ", 2)", x.proofs(s, 2), inAll);
    }

    // Promise 23
    private static void proofs() {
        FloorOfProofs x = Due.floor(THREE_PROOFS);
        proofs(x, 0, 1, 0, 0);
        proofs(x, 2, 2, Due.bits(0), 0);
        proofs(x, 3, 3, Due.bits(3), 0);
        proofs(x, 4, 3, Due.bits(3, 4), Due.bits(4));
        proofs(x, 5, 0, Due.NONE, 0);
        // In a circle there are no more of them.
        x = Due.floor("n5;a0;t0,0,1;t1,1,2;t2,2,1;t2,2,3;");
        proofs(x, 1, 1, Due.bits(0), Due.bits(0));
        proofs(x, 3, 1, Due.bits(0, 1, 3), Due.bits(0, 1, 3));
    }

    private static void proofsLowest() {
        FloorOfProofs x = Due.floor("n6;a0;t0,0,1;t0,0,2;t2,2,3;t1,1,3;");
        proofs(x, 3, 2, Due.bits(1, 2), 0);
        // Fewer steps go before lower ones.
        x = Due.floor("n6;a0;t0,0,1;t1,1,2;t2,2,3;t0,0,4;t4,4,3;");
        proofs(x, 3, 2, Due.bits(3, 4), 0);
    }

    private static void proofsMany() {
        FloorOfProofs x = Due.floor("n10;a0;t0,0,1;t0,0,1;t1,1,2;t1,1,2;t2,2,3;t2,2,3;"
                + "t3,3,4;t3,3,4;t4,4,5;t4,4,5;");
        proofs(x, 5, 32, Due.bits(0, 2, 4, 6, 8), 0);
        proofs(x, 4, 16, Due.bits(0, 2, 4, 6), 0);
        Due.due("worn(5, ..)", x.worn(5, Due.bits(1, 2, 3, 4, 5)), 32);
        x = Due.floor("n10;a0;t0,0,1;t1,1,2;t2,2,3;t3,3,4;t4,4,5;t5,5,6;t6,6,7;t7,7,8;t8,8,9;t9,9,1;");
        proofs(x, 9, 1, 511, 511);
    }

    private static void proofsOfWhatIsThere() {
        FloorOfProofs x = Due.floor(THREE_PROOFS);
        // What is stood on does not count.
        x.go(0);
        x.go(3);
        proofs(x, 3, 3, Due.bits(3), 0);
        x.takeOut(2);
        proofs(x, 2, 0, Due.NONE, 0);
        proofs(x, 3, 1, Due.bits(3), Due.bits(3));
        proofs(x, 4, 1, Due.bits(3, 4), Due.bits(3, 4));
        x.undo();
        x.takeOut(0);
        proofs(x, 0, 0, Due.NONE, 0);
        proofs(x, 3, 1, Due.bits(1, 2), Due.bits(1, 2));
        // From a floor of more steps to one of fewer.
        Due.lay(x, "n3;a1;t1,1,2;");
        proofs(x, 2, 1, 1, 1);
        proofs(x, 0, 0, Due.NONE, 0);
        x.lay(1, 1, 2);
        proofs(x, 2, 2, 1, 0);
    }

    private static void proofsRefused() {
        FloorOfProofs x = Due.floor(THREE_PROOFS);
        int[][] wrong = {{6, 0}, {-1, 0}, {0, 3}, {0, -1}, {5, 3},
            {Integer.MAX_VALUE, 0}, {0, Integer.MIN_VALUE}};
        for (int[] of : wrong) {
            Due.due("proofs(" + of[0] + ", " + of[1] + ")", x.proofs(of[0], of[1]), Due.BAD);
        }
    }

    // Promise 24
    private static void worn() {
        FloorOfProofs x = Due.floor(THREE_PROOFS);
        Due.due("worn(0, 0)", x.worn(0, 0), 1);
        Due.due("worn(0, of 0)", x.worn(0, Due.bits(0)), 0);
        Due.due("worn(2, of 2)", x.worn(2, Due.bits(2)), 2);
        Due.due("worn(3, of 3)", x.worn(3, Due.bits(3)), 1);
        Due.due("worn(3, of 2, 3)", x.worn(3, Due.bits(2, 3)), 2);
        Due.due("worn(4, of 2, 3, 4)", x.worn(4, Due.bits(2, 3, 4)), 2);
        Due.due("worn(4, of 3, 4)", x.worn(4, Due.bits(3, 4)), 1);
        Due.due("worn(4, of 4)", x.worn(4, Due.bits(4)), 0);
        Due.due("worn(4, of all)", x.worn(4, 63), 0);
        Due.due("worn(4, of 1, 2, 3, 4)", x.worn(4, Due.bits(1, 2, 3, 4)), 0);
        Due.due("worn(4, 0)", x.worn(4, 0), 0);
        Due.due("worn(5, 0)", x.worn(5, 0), 0);
        x.takeOut(2);
        Due.due("2 out: worn(4, of 2, 3, 4)", x.worn(4, Due.bits(2, 3, 4)), 0);
        Due.due("2 out: worn(4, of 3, 4)", x.worn(4, Due.bits(3, 4)), 1);
    }

    private static void wornRefused() {
        FloorOfProofs x = Due.floor(THREE_PROOFS);
        int[][] wrong = {{6, 0}, {-1, 0}, {0, 64}, {0, -1}, {5, 1024}, {6, 64},
            {Integer.MAX_VALUE, 0}, {0, Integer.MIN_VALUE}, {0, Integer.MAX_VALUE}};
        for (int[] of : wrong) {
            Due.due("worn(" + of[0] + ", " + of[1] + ")", x.worn(of[0], of[1]), Due.BAD);
        }
    }

    // Promise 25
    private static void tell() {
        FloorOfProofs x = Due.floor(THREE_PROOFS);
        int[] wrong = {5, -1, 10, Integer.MAX_VALUE, Integer.MIN_VALUE};
        for (int t : wrong) {
            Due.due("tell(" + t + ")", x.tell(t), Due.BAD);
        }
        for (int i = 1; i <= 12; i++) {
            Due.due("tell the " + i + "th", x.tell(i % 5), i);
        }
        Due.due("tell the 13th", x.tell(0), Due.FULL);
        Due.due("tell the 13th, bad", x.tell(5), Due.BAD);
        Due.due("count(4)", x.count(4), 12);
        Due.due("count(3): telling goes nowhere", x.count(3), 2);
        x.noRow();
        x.lay(0, 0, 5);
        Due.due("tell(5) laid", x.tell(5), 1);
    }

    // Promise 26
    private static void noRow() {
        FloorOfProofs x = new FloorOfProofs();
        Due.due("noRow() of none", x.noRow(), 0);
        x.tell(1);
        x.tell(1);
        Due.due("noRow()", x.noRow(), 2);
        Due.due("noRow() again", x.noRow(), 0);
        Due.due("count(4)", x.count(4), 0);
        Due.due("judge()", x.judge(), Due.NONE);
        Due.due("tell(0) anew", x.tell(0), 1);
        Due.due("judge() anew", x.judge(), Due.NONE);
    }

    private static void judge(FloorOfProofs x, int want, int... row) {
        x.noRow();
        StringBuilder call = new StringBuilder("judge() of");
        for (int t : row) {
            x.tell(t);
            call.append(' ').append(t);
        }
        Due.due(call.toString(), x.judge(), want);
    }

    // Promise 27
    private static void judge() {
        FloorOfProofs x = Due.floor(THREE_PROOFS);
        judge(x, Due.NONE);
        judge(x, Due.NONE, 0, 2, 4);
        judge(x, Due.NONE, 3, 4, 1);
        judge(x, 0, 4, 3);
        judge(x, 1, 0, 1);
        judge(x, 1, 0, 4, 2);
        judge(x, 2, 0, 2, 3, 4);
        judge(x, 3, 3, 4, 0, 0);
        Due.due("nothing changes: count(4)", x.count(4), 4);
        Due.due("nothing changes: count(3)", x.count(3), 2);
        Due.due("nothing changes: stone(3, 3)", x.stone(3, 3), 0);
        Due.due("judge() again", x.judge(), 3);
        x = Due.floor("n10;a0;t0,0,1;t0,0,2;t0,0,3;t0,0,4;t0,0,5;t0,0,6;t0,0,7;t0,0,8;t0,0,9;t9,9,1;");
        judge(x, Due.NONE, 8, 7, 6, 5, 4, 3, 2, 1, 0);
        judge(x, 9, 8, 7, 6, 5, 4, 3, 2, 1, 0, 9, 9, 9);
    }

    private static void judgeFromNowOn() {
        FloorOfProofs x = Due.floor(THREE_PROOFS);
        judge(x, 0, 2, 4);
        x.go(0);
        Due.due("2 stood on: judge()", x.judge(), Due.NONE);
        x.takeOut(3);
        Due.due("3 out: judge()", x.judge(), 0);
        x.tell(0);
        x.undo();
        Due.due("undone: judge()", x.judge(), Due.NONE);
        Due.due("undone: count(4)", x.count(4), 0);
    }

    private static void year(FloorOfProofs x, int z, int n, int gone, int stood) {
        Due.due("year(" + z + ", " + n + ", 0)", x.year(z, n, 0), gone);
        Due.due("year(" + z + ", " + n + ", 1)", x.year(z, n, 1), stood);
    }

    // Promise 28
    private static void year() {
        FloorOfProofs x = new FloorOfProofs();
        // By z = 0 the draws are steps 1, 1, 1, 1, 0, 1: 1 may be only behind 0.
        year(x, 0, 1, 0, Due.bits(0, 1));
        year(x, 0, 4, 0, Due.bits(0, 1));
        year(x, 0, 5, 1, Due.bits(0, 1, 2));
        year(x, 0, 6, 2, Due.bits(0, 1, 2, 3));
        year(x, 0, 99, 2, Due.bits(0, 1, 2, 3));
        Due.due("nothing changes: count(3)", x.count(3), 2);
        Due.due("nothing changes: stone(2, 3)", x.stone(2, 3), 0);
        Due.due("nothing changes: count(5)", x.count(5), 0);
        x.go(0);
        year(x, 0, 1, 1, Due.bits(0, 1, 2, 3));
        x.takeOut(0);
        year(x, 0, 1, 1, Due.bits(1, 2, 3));
        x.takeOut(3);
        year(x, 0, 99, 0, Due.bits(1, 2));
    }

    /** Ten steps from one stone: which are gone tells which were drawn. */
    private static void yearOfEveryStep() {
        StringBuilder text = new StringBuilder("n10;a0;");
        for (int t = 0; t < 9; t++) {
            text.append("t0,0,").append(t + 1).append(';');
            FloorOfProofs x = Due.floor(text.toString());
            for (int z : new int[] {0, 1, 2, 77, 2026, 5000, 9998, 9999}) {
                for (int n : new int[] {1, 2, 3, 7, 98, 99}) {
                    int stood = 1;
                    for (int k = 0; k < n; k++) {
                        java.math.BigInteger sum = java.math.BigInteger.valueOf(7919L * z + 6151L * k + 1);
                        int draw = sum.pow(2).mod(java.math.BigInteger.valueOf(65521)).intValue() % (t + 1);
                        stood |= 1 << draw + 1;
                    }
                    year(x, z, n, Integer.bitCount(stood) - 1, stood);
                }
            }
        }
    }

    private static void yearRefused() {
        FloorOfProofs x = new FloorOfProofs();
        int[][] wrong = {{-1, 1, 0}, {10000, 1, 0}, {0, 0, 0}, {0, 100, 0}, {0, 1, -1}, {0, 1, 2},
            {Integer.MIN_VALUE, 1, 0}, {0, Integer.MAX_VALUE, 0}, {0, 1, Integer.MAX_VALUE}};
        for (int[] of : wrong) {
            Due.due("year(" + of[0] + ", " + of[1] + ", " + of[2] + ")",
                    x.year(of[0], of[1], of[2]), Due.BAD);
        }
    }

    // Promise 29
    private static void keep() {
        FloorOfProofs x = new FloorOfProofs();
        x.tell(0);
        x.go(0);
        Due.due("keep()", x.keep(), 1);
        Due.due("keep(): the told row stays", x.count(4), 1);
        Due.due("keep(): what can be undone stays", x.count(5), 1);
        Due.due("keep() the 2nd", x.keep(), 2);
        Due.due("keep() the 3rd", x.keep(), Due.FULL);
        Due.due("count(6)", x.count(6), 2);
        x.undo();
        Due.due("what is kept stays when undone: count(6)", x.count(6), 2);
        x.back();
        Due.due("keep() behind back()", x.keep(), 2);
    }

    // Promise 30
    private static void back() {
        FloorOfProofs x = Due.floor("n5;a0;t0,0,1;t1,1,2;w1,9;");
        x.go(0);
        x.takeOut(4);
        x.keep();
        x.go(1);
        x.lay(0, 0, 3);
        x.takeOut(0);
        x.undo();
        x.tell(2);
        Due.due("back()", x.back(), 0);
        Due.due("as kept: steps", x.count(1), 2);
        Due.due("as kept: step(2, 0)", x.step(2, 0), Due.BAD);
        Due.due("as kept: there", x.count(2), 4);
        Due.due("as kept: stone(4, 0)", x.stone(4, 0), 0);
        Due.due("as kept: stood on", x.count(3), 2);
        Due.due("as kept: stone(2, 1)", x.stone(2, 1), 0);
        Due.due("as kept: stone(2, 3)", x.stone(2, 3), 0);
        Due.due("as kept: stone(1, 3)", x.stone(1, 3), 10);
        Due.due("no told row: count(4)", x.count(4), 0);
        Due.due("nothing undone: count(5)", x.count(5), 0);
        Due.due("nothing undone: undo()", x.undo(), Due.NO);
        Due.due("kept no more: count(6)", x.count(6), 0);
        Due.due("go(1) again", x.go(1), 3);
    }

    private static void backOfEach() {
        FloorOfProofs x = Due.floor("n5;a0;t0,0,1;t1,1,2;");
        x.keep();
        x.go(0);
        x.lay(1, 1, 3);
        x.keep();
        x.takeOut(0);
        x.lay(3, 3, 4);
        Due.due("back() to the last", x.back(), 1);
        Due.due("the last: count(1)", x.count(1), 3);
        Due.due("the last: step(2, 2)", x.step(2, 2), 3);
        Due.due("the last: stone(0, 0)", x.stone(0, 0), 1);
        Due.due("the last: count(3)", x.count(3), 2);
        x.go(2);
        Due.due("back() to the first", x.back(), 0);
        Due.due("the first: count(1)", x.count(1), 2);
        Due.due("the first: count(3)", x.count(3), 1);
        // The text's floor may have been written over since: what is kept is a floor, not a text.
        x.keep();
        Due.write(x, "b");
        Due.due("back() with a text at fault", x.back(), 0);
        Due.due("back(): the text stays", x.fault() == Due.NONE ? 1 : 0, 0);
    }

    private static void backRefused() {
        FloorOfProofs x = new FloorOfProofs();
        x.go(0);
        x.tell(0);
        Due.due("back() of none", x.back(), Due.NO);
        Due.due("nothing changes: count(4)", x.count(4), 1);
        Due.due("nothing changes: count(5)", x.count(5), 1);
        Due.due("nothing changes: count(3)", x.count(3), 3);
    }
}
