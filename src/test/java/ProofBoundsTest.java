import java.math.BigInteger;

/** Each sentence of DOC.md on proofs, rows, years and what is kept that names a boundary case: promises 23 to 31. */
public final class ProofBoundsTest {
    private static final String CHAIN =
            "n10;a0;t0,0,1;t1,1,2;t2,2,3;t3,3,4;t4,4,5;t5,5,6;t6,6,7;t7,7,8;t8,8,9;";
    private static final int[] FAR = {Integer.MIN_VALUE, -9999, -2, -1, 10001, 1 << 16, Integer.MAX_VALUE};

    public static void main(String[] args) {
        Due.bound("a set of STEPS (bits) by which alone it is in the REACH of BEGINNINGS, but by none of these left out.",
                ProofBoundsTest::proof);
        Due.bound("that of fewest STEPS, of several the lowest", ProofBoundsTest::shortest);
        Due.bound("the STEPS that are in all of them (0: none there are)", ProofBoundsTest::inAll);
        Due.bound("PROOFS: how many (what = 0), that of fewest (1; NONE), the STEPS in all (2). BAD.",
                ProofBoundsTest::proofs);
        Due.bound("how many PROOFS of a STONE there are whose STEPS lead to just the STONES of a set (bits).",
                ProofBoundsTest::worn);
        Due.bound("A told row of STEPS (12 at most)", ProofBoundsTest::tell);
        Due.bound("No told row: how many it had.", ProofBoundsTest::noRow);
        Due.bound("the place of the first that MAY not be; none.", ProofBoundsTest::judge);
        Due.bound("A YEAR by z (0 to 9999) of n (1 to 99) tries from now on", ProofBoundsTest::yearOf);
        Due.bound("at the k-th (0 first) STEP ((x times x) modulo 65521) modulo how many there are is gone, if it MAY be",
                ProofBoundsTest::year);
        Due.bound("(nothing changes by it)", ProofBoundsTest::yearChangesNothing);
        Due.bound("KEPT are STEPS, STONES that are there, that are STOOD on, how worn they are: 2 at most.",
                ProofBoundsTest::keep);
        Due.bound("As KEPT last (it is KEPT no more then): how many are left; no told row, nothing UNDONE then. NO.",
                ProofBoundsTest::back);
        Due.bound("How many: 0 STONES, 1 STEPS, 2 STONES there, 3 STOOD on, 4 of the told row, 5 that can be UNDONE, "
                + "6 KEPT, 7 bytes of THE TEXT. BAD.", ProofBoundsTest::count);
        Due.bound("An object is used for at most 512 calls after it has been made", ProofBoundsTest::lastCall);
        Due.end("ProofBoundsTest");
    }

    private static void proofs(FloorOfProofs x, int s, int many, int shortest, int inAll) {
        Due.due("proofs(" + s + ", 0)", x.proofs(s, 0), many);
        Due.due("proofs(" + s + ", 1)", x.proofs(s, 1), shortest);
        Due.due("proofs(" + s + ", 2)", x.proofs(s, 2), inAll);
    }

    private static void proof() {
        // By none of them left out: no step too many, whatever else would do.
        FloorOfProofs x = Due.floor("n4;a0;t0,0,1;t1,1,2;t0,0,2;t2,2,3;");
        proofs(x, 1, 1, Due.bits(0), Due.bits(0));
        proofs(x, 2, 2, Due.bits(2), 0);
        proofs(x, 3, 2, Due.bits(2, 3), Due.bits(3));
        // One that is begun on needs no step, though steps lead to it.
        x = Due.floor("n3;a0;a2;t0,0,1;t1,1,2;t0,0,2;");
        proofs(x, 2, 1, 0, 0);
        proofs(x, 0, 1, 0, 0);
        // A set that holds a proof is none, though more than one of its steps must be left out.
        x = Due.floor("n6;a0;t0,0,1;t0,0,2;t1,2,3;t3,3,4;t0,0,4;");
        proofs(x, 4, 2, Due.bits(4), 0);
        // From two, both of them to be proved.
        proofs(x, 3, 1, Due.bits(0, 1, 2), Due.bits(0, 1, 2));
        // A stone used twice is proved once.
        x = Due.floor("n5;a0;t0,0,1;t1,1,2;t1,1,3;t2,3,4;t0,0,1;");
        proofs(x, 4, 2, Due.bits(0, 1, 2, 3), Due.bits(1, 2, 3));
    }

    private static void shortest() {
        FloorOfProofs x = Due.floor("n2;a0;" + "t0,0,1;".repeat(10));
        proofs(x, 1, 10, 1, 0);
        x = Due.floor("n6;a0;t0,0,1;t1,1,2;t2,2,5;t0,0,3;t3,3,5;t0,0,4;t4,4,5;");
        proofs(x, 5, 3, Due.bits(3, 4), 0);
        // Of as many the lowest by its bits: the highest of its steps weighs most.
        x = Due.floor("n4;a0;t0,0,1;t0,0,2;t2,2,3;t1,1,3;");
        proofs(x, 3, 2, Due.bits(1, 2), 0);
        x = Due.floor("n4;a0;t0,0,1;t0,0,2;t1,1,3;t2,2,3;");
        proofs(x, 3, 2, Due.bits(0, 2), 0);
    }

    private static void inAll() {
        FloorOfProofs x = Due.floor("n6;a0;a1;t0,0,2;t1,1,2;t2,2,3;t3,3,4;");
        proofs(x, 2, 2, 1, 0);
        proofs(x, 4, 2, Due.bits(0, 2, 3), Due.bits(2, 3));
        // No proof at all: no step is in all of none.
        proofs(x, 5, 0, Due.NONE, 0);
        x.takeOut(2);
        proofs(x, 4, 0, Due.NONE, 0);
        x.takeOut(0);
        proofs(x, 0, 0, Due.NONE, 0);
    }

    private static void proofs() {
        FloorOfProofs x = Due.floor(CHAIN);
        for (int s = 0; s < 10; s++) {
            proofs(x, s, 1, (1 << s) - 1, (1 << s) - 1);
        }
        x.lay(0, 0, 9);
        proofs(x, 9, 2, 512, 0);
        x.takeOut(5);
        proofs(x, 9, 1, 512, 512);
        proofs(x, 8, 0, Due.NONE, 0);
        proofs(x, 5, 0, Due.NONE, 0);
        // Three, three and four ways, one behind the other.
        x = Due.floor("n4;a0;" + "t0,0,1;".repeat(3) + "t1,1,2;".repeat(3) + "t2,2,3;".repeat(4));
        proofs(x, 3, 36, Due.bits(0, 3, 6), 0);
        proofs(x, 2, 9, Due.bits(0, 3), 0);
        proofs(x, 1, 3, 1, 0);
        Due.due("proofs(4, 0)", x.proofs(4, 0), Due.BAD);
        Due.due("proofs(-1, 1)", x.proofs(-1, 1), Due.BAD);
        Due.due("proofs(3, 3)", x.proofs(3, 3), Due.BAD);
        Due.due("proofs(3, -1)", x.proofs(3, -1), Due.BAD);
    }

    private static void worn() {
        FloorOfProofs x = Due.floor(CHAIN);
        for (int s = 0; s < 10; s++) {
            Due.due("worn(" + s + ", all it passes)", x.worn(s, (2 << s) - 2), 1);
            Due.due("worn(" + s + ", 0)", x.worn(s, 0), s == 0 ? 1 : 0);
            Due.due("worn(" + s + ", with 0)", x.worn(s, (2 << s) - 1), 0);
            Due.due("worn(" + s + ", 1023)", x.worn(s, 1023), 0);
        }
        Due.due("worn(9, without 5)", x.worn(9, 1022 & ~32), 0);
        Due.due("worn(9, 1024)", x.worn(9, 1024), Due.BAD);
        Due.due("worn(9, -1)", x.worn(9, -1), Due.BAD);
        Due.due("worn(10, 0)", x.worn(10, 0), Due.BAD);
        Due.due("worn(-1, 0)", x.worn(-1, 0), Due.BAD);
        // Just these stones: neither more nor fewer; several proofs may lead to the same ones.
        x = Due.floor("n5;a0;t0,0,1;t0,0,1;t1,1,4;t0,0,2;t2,2,4;t0,0,4;");
        Due.due("worn(4, of 4)", x.worn(4, Due.bits(4)), 1);
        Due.due("worn(4, of 1, 4)", x.worn(4, Due.bits(1, 4)), 2);
        Due.due("worn(4, of 2, 4)", x.worn(4, Due.bits(2, 4)), 1);
        Due.due("worn(4, of 1, 2, 4)", x.worn(4, Due.bits(1, 2, 4)), 0);
        Due.due("worn(4, of 1)", x.worn(4, Due.bits(1)), 0);
        Due.due("worn(3, 0)", x.worn(3, 0), 0);
        x.takeOut(0);
        Due.due("0 out: worn(0, 0)", x.worn(0, 0), 0);
    }

    private static void tell() {
        FloorOfProofs x = Due.floor(CHAIN);
        for (int i = 1; i <= 12; i++) {
            Due.due("tell(9) ahead of the " + i + "th", x.tell(9), Due.BAD);
            Due.due("tell the " + i + "th", x.tell(8), i);
            Due.due("count(4)", x.count(4), i);
        }
        Due.due("tell(0) the 13th", x.tell(0), Due.FULL);
        Due.due("tell(8) the 13th", x.tell(8), Due.FULL);
        Due.due("tell(9) the 13th", x.tell(9), Due.BAD);
        Due.due("tell(-1) the 13th", x.tell(-1), Due.BAD);
        Due.due("count(4) of 12", x.count(4), 12);
        x.noRow();
        Due.due("tell(0) anew", x.tell(0), 1);
    }

    private static void noRow() {
        FloorOfProofs x = Due.floor(CHAIN);
        Due.due("noRow() of 0", x.noRow(), 0);
        for (int many = 1; many <= 12; many++) {
            for (int i = 0; i < many; i++) {
                x.tell(1);
            }
            Due.due("judge() of " + many, x.judge(), 0);
            Due.due("noRow() of " + many, x.noRow(), many);
            Due.due("count(4) behind " + many, x.count(4), 0);
            Due.due("judge() behind " + many, x.judge(), Due.NONE);
        }
        Due.due("noRow() again", x.noRow(), 0);
    }

    private static void judge() {
        FloorOfProofs x = Due.floor(CHAIN);
        Due.due("judge() of 0", x.judge(), Due.NONE);
        for (int t = 0; t < 9; t++) {
            x.tell(t);
            Due.due("judge() of " + (t + 1), x.judge(), Due.NONE);
        }
        for (int more = 0; more < 3; more++) {
            x.tell(8);
            Due.due("judge() of one gone twice", x.judge(), 9);
        }
        x.go(0);
        Due.due("0 gone: judge()", x.judge(), 0);
        x.noRow();
        x.tell(1);
        Due.due("0 gone: judge() of 1", x.judge(), Due.NONE);
        x.tell(3);
        x.tell(2);
        Due.due("judge() of 1, 3, 2", x.judge(), 1);
        x.takeOut(0);
        Due.due("0 out: judge() of 1, 3, 2", x.judge(), 1);
        x.takeOut(2);
        Due.due("2 out: judge() of 1, 3, 2", x.judge(), 0);
        Due.due("nothing changes: count(3)", x.count(3), 1);
        Due.due("nothing changes: count(4)", x.count(4), 3);
        Due.due("nothing changes: count(5)", x.count(5), 3);
        // The first that may not be, whatever may be behind it.
        x = Due.floor("n4;a0;t0,1,2;t0,0,1;t0,0,3;");
        x.tell(1);
        x.tell(2);
        x.tell(2);
        x.tell(0);
        Due.due("judge() of 1, 2, 2, 0", x.judge(), 2);
    }

    private static int draw(int z, int k, int steps) {
        BigInteger x = BigInteger.valueOf(7919).multiply(BigInteger.valueOf(z))
                .add(BigInteger.valueOf(6151).multiply(BigInteger.valueOf(k))).add(BigInteger.ONE);
        return x.multiply(x).mod(BigInteger.valueOf(65521)).intValue() % steps;
    }

    private static void yearOf() {
        FloorOfProofs x = Due.floor(CHAIN);
        int[] wrong = {0, 100, 101, 1000};
        for (int what = 0; what < 2; what++) {
            Due.due("year(-1, 1, " + what + ")", x.year(-1, 1, what), Due.BAD);
            Due.due("year(10000, 1, " + what + ")", x.year(10000, 1, what), Due.BAD);
            for (int n : wrong) {
                Due.due("year(0, " + n + ", " + what + ")", x.year(0, n, what), Due.BAD);
            }
            for (int far : FAR) {
                Due.due("year(" + far + ", 1, " + what + ")", x.year(far, 1, what), Due.BAD);
                Due.due("year(0, " + far + ", " + what + ")", x.year(0, far, what), Due.BAD);
            }
        }
        for (int what : new int[] {-1, 2, 3, Integer.MIN_VALUE, Integer.MAX_VALUE}) {
            Due.due("year(0, 1, " + what + ")", x.year(0, 1, what), Due.BAD);
        }
        // The ends of z and of n, by the draws as the document tells them.
        for (int z : new int[] {0, 1, 9998, 9999}) {
            for (int n : new int[] {1, 2, 98, 99}) {
                int stood = 1;
                for (int k = 0; k < n; k++) {
                    int t = draw(z, k, 9);
                    stood |= (stood >> t & 1) << t + 1;
                }
                Due.due("year(" + z + ", " + n + ", 0)", x.year(z, n, 0), Integer.bitCount(stood) - 1);
                Due.due("year(" + z + ", " + n + ", 1)", x.year(z, n, 1), stood);
            }
        }
    }

    /** A step is drawn that may be gone, one that may not, one that was gone; each of ten, or the one there is. */
    private static void year() {
        // For k = 0 and z = 0, x is 1.
        Due.due("1 modulo 10: year(0, 1, 1)",
                Due.floor("n10;a0;t0,0,2;t0,0,3;" + "t0,0,4;".repeat(8)).year(0, 1, 1), Due.bits(0, 3));
        Due.due("1 modulo 1: year(0, 1, 1)", Due.floor("n10;a0;t0,0,2;").year(0, 1, 1), Due.bits(0, 2));
        FloorOfProofs x = Due.floor("n10;a0;t0,0,2;");
        Due.due("one step: year(9999, 99, 0)", x.year(9999, 99, 0), 1);
        x.go(0);
        Due.due("one step, gone: year(9999, 99, 0)", x.year(9999, 99, 0), 0);
        Due.due("one step, gone: year(9999, 99, 1)", x.year(9999, 99, 1), Due.bits(0, 2));
        for (int steps = 1; steps <= 9; steps++) {
            StringBuilder text = new StringBuilder("n10;a0;");
            for (int t = 0; t < steps; t++) {
                text.append("t0,0,").append(t + 1).append(';');
            }
            FloorOfProofs star = Due.floor(text.toString());
            for (int z = 0; z < 10000; z += 1111) {
                Due.due(steps + " steps: year(" + z + ", 1, 1)", star.year(z, 1, 1), 1 | 2 << draw(z, 0, steps));
            }
        }
        // A step that is laid is drawn as well.
        x = Due.floor("n3;a0;t1,1,2;");
        Due.due("not laid: year(0, 1, 1)", x.year(0, 1, 1), 1);
        x.lay(0, 0, 1);
        Due.due("laid: year(0, 1, 1)", x.year(0, 1, 1), 3);
        x.undo();
        Due.due("undone: year(0, 1, 1)", x.year(0, 1, 1), 1);
        // From now on: by what is there and stood on.
        x = Due.floor("n3;a0;t0,0,1;");
        x.takeOut(1);
        Due.due("1 out: year(5, 99, 1)", x.year(5, 99, 1), 1);
        x.undo();
        x.takeOut(0);
        Due.due("0 out: year(5, 99, 1)", x.year(5, 99, 1), 0);
    }

    private static void yearChangesNothing() {
        FloorOfProofs x = Due.floor(CHAIN);
        x.tell(3);
        String before = State.all(x);
        int gone = x.year(7, 99, 0);
        int stood = x.year(7, 99, 1);
        Due.due("as before", State.all(x).equals(before) ? 1 : 0, 1);
        Due.due("year(7, 99, 0) again", x.year(7, 99, 0), gone);
        Due.due("year(7, 99, 1) again", x.year(7, 99, 1), stood);
        Due.due("undo()", x.undo(), Due.NO);
    }

    private static void keep() {
        FloorOfProofs x = Due.floor("n5;a0;t0,0,1;t1,1,2;w1,99;");
        Due.due("back() of none", x.back(), Due.NO);
        Due.due("keep() the 1st", x.keep(), 1);
        Due.due("keep() the 2nd", x.keep(), 2);
        for (int i = 0; i < 3; i++) {
            Due.due("keep() of more", x.keep(), Due.FULL);
        }
        x.go(0);
        Due.due("keep() of more, gone on", x.keep(), Due.FULL);
        Due.due("back() to the 2nd", x.back(), 1);
        Due.due("the 2nd: count(3)", x.count(3), 1);
        x.go(0);
        x.takeOut(4);
        x.lay(1, 0, 3);
        Due.due("keep() the 2nd anew", x.keep(), 2);
        x.undo();
        x.undo();
        x.undo();
        x.lay(4, 3, 2);
        Due.due("undone, another laid: count(1)", x.count(1), 3);
        Due.due("undone: count(2)", x.count(2), 5);
        Due.due("undone: stone(1, 3)", x.stone(1, 3), 99);
        Due.due("back() to what is undone", x.back(), 1);
        Due.due("as kept: count(1)", x.count(1), 3);
        Due.due("as kept: step(2, 0)", x.step(2, 0), 1);
        Due.due("as kept: step(2, 1)", x.step(2, 1), 0);
        Due.due("as kept: step(2, 2)", x.step(2, 2), 3);
        Due.due("as kept: step(2, 3)", x.step(2, 3), 1);
        Due.due("as kept: count(2)", x.count(2), 4);
        Due.due("as kept: stone(4, 0)", x.stone(4, 0), 0);
        Due.due("as kept: stone(1, 1)", x.stone(1, 1), 1);
        Due.due("as kept: stone(1, 3)", x.stone(1, 3), 100);
        Due.due("back() to the 1st", x.back(), 0);
        Due.due("the 1st: count(1)", x.count(1), 2);
        Due.due("the 1st: count(2)", x.count(2), 5);
        Due.due("the 1st: count(3)", x.count(3), 1);
        Due.due("the 1st: stone(1, 3)", x.stone(1, 3), 99);
        Due.due("back() of no more", x.back(), Due.NO);
    }

    private static void back() {
        // Two alike kept: what is changed behind the one does not change the other.
        FloorOfProofs x = Due.floor("n4;a0;t0,0,1;t1,1,2;w2,5;");
        String kept = State.all(x);
        x.keep();
        x.keep();
        for (int left = 1; left >= 0; left--) {
            x.go(0);
            x.go(1);
            x.takeOut(0);
            for (int t = 2; t < 10; t++) {
                x.lay(2, 1, 3);
            }
            for (int i = 0; i < 12; i++) {
                x.tell(9);
            }
            Due.due("count(4) ahead of back()", x.count(4), 12);
            Due.due("count(5) ahead of back()", x.count(5), 8);
            Due.due("back()", x.back(), left);
            Due.due("count(6)", x.count(6), left);
            Due.due("no told row: count(4)", x.count(4), 0);
            Due.due("nothing undone: count(5)", x.count(5), 0);
            Due.due("undo()", x.undo(), Due.NO);
            String as = kept.replaceFirst("^(count( \\d+){6}) 0 ", "$1 " + left + " ");
            Due.due("as kept", State.all(x).equals(as) ? 1 : 0, 1);
        }
        x.go(0);
        x.tell(0);
        Due.due("back() of none", x.back(), Due.NO);
        Due.due("nothing changes: count(4)", x.count(4), 1);
        Due.due("nothing changes: count(5)", x.count(5), 1);
        Due.due("nothing changes: count(3)", x.count(3), 2);
        // The text is not kept.
        x.keep();
        x.wipe();
        x.write(1, 'b');
        x.back();
        Due.due("count(7) behind back()", x.count(7), 1);
        Due.due("fault() behind back()", x.fault(), 0);
    }

    private static void counts(FloorOfProofs x, int... counts) {
        for (int what = 0; what < counts.length; what++) {
            Due.due("count(" + what + ")", x.count(what), counts[what]);
        }
        Due.due("count(8)", x.count(8), Due.BAD);
        Due.due("count(-1)", x.count(-1), Due.BAD);
    }

    private static void count() {
        // The least of each, then the most.
        FloorOfProofs x = Due.floor("n2;t0,0,1;");
        x.wipe();
        counts(x, 2, 1, 2, 0, 0, 0, 0, 0);
        x.takeOut(0);
        x.takeOut(1);
        counts(x, 2, 1, 0, 0, 0, 2, 0, 0);
        x = Due.floor(CHAIN);
        x.lay(0, 1, 9);
        for (int t = 0; t < 9; t++) {
            x.go(t);
        }
        for (int i = 0; i < 13; i++) {
            x.tell(9);
        }
        for (int i = 0; i < 3; i++) {
            x.keep();
        }
        for (int i = CHAIN.length(); i < 302; i++) {
            x.write(1, ';');
        }
        counts(x, 10, 10, 10, 10, 12, 8, 2, 300);
    }

    private static void lastCall() {
        FloorOfProofs x = new FloorOfProofs();
        for (int call = 1; call <= 300; call++) {
            Due.due("call " + call + ": write(1)", x.write(1, ';'), call);
        }
        for (int call = 301; call < 511; call += 2) {
            Due.due("call " + call + ": go(0)", x.go(0), 3);
            Due.due("call " + (call + 1) + ": undo()", x.undo(), 0);
        }
        Due.due("call 511: wipe()", x.wipe(), 300);
        Due.due("call 512: proofs(3, 1)", x.proofs(3, 1), 3);
    }
}
