/** Promises 1 to 7 and 31: the text, its fault, laying it, stones, steps, counts. */
public final class FloorsTest {
    public static void main(String[] args) {
        newObject();
        writeOrder();
        writeRefused();
        wipe();
        faultOfItems();
        faultOfNumbers();
        faultOfStones();
        faultOfTooManySteps();
        layFloor();
        layFloorForgets();
        layFloorRefused();
        stone();
        stoneOfText();
        step();
        count();
        Due.end("FloorsTest");
    }

    // Promise 1
    private static void newObject() {
        FloorOfProofs x = new FloorOfProofs();
        int[] counts = {4, 2, 4, 2, 0, 0, 0, 0};
        for (int what = 0; what < counts.length; what++) {
            Due.due("new: count(" + what + ")", x.count(what), counts[what]);
        }
        for (int s = 0; s < 4; s++) {
            Due.due("new: stone(" + s + ", 0)", x.stone(s, 0), 1);
            Due.due("new: stone(" + s + ", 1)", x.stone(s, 1), s < 2 ? 1 : 0);
            Due.due("new: stone(" + s + ", 2)", x.stone(s, 2), s < 2 ? 1 : 0);
            Due.due("new: stone(" + s + ", 3)", x.stone(s, 3), 0);
            Due.due("new: stone(" + s + ", 4)", x.stone(s, 4), 0);
        }
        int[] first = {0, 1, 2, 1};
        int[] second = {2, 2, 3, 0};
        for (int what = 0; what < 4; what++) {
            Due.due("new: step(0, " + what + ")", x.step(0, what), first[what]);
            Due.due("new: step(1, " + what + ")", x.step(1, what), second[what]);
        }
        Due.due("new: fault()", x.fault(), Due.NONE);
        Due.due("new: layFloor()", x.layFloor(), Due.NO);
        Due.due("new: count(1) behind it", x.count(1), 2);
        Due.due("new: wipe()", x.wipe(), 0);
        FloorOfProofs other = new FloorOfProofs();
        other.go(0);
        other.write(1, 'n');
        Due.due("another one gone: count(3)", x.count(3), 2);
        Due.due("another one written: count(7)", x.count(7), 0);
    }

    // Promise 2
    private static void writeOrder() {
        FloorOfProofs x = new FloorOfProofs();
        // The highest of the lowest n bytes first; what is above them does not count.
        Due.due("write(2, ..n5)", x.write(2, 0x7fffffffffff0000L | 'n' << 8 | '5'), 2);
        Due.due("write(1, ..;)", x.write(1, -256L | ';'), 3);
        Due.due("fault() of n5;", x.fault(), Due.NONE);
        long eight = 0;
        String text = "t0,1,2;a";
        for (int i = 0; i < 8; i++) {
            eight = eight << 8 | text.charAt(i);
        }
        Due.due("write(8, ..)", x.write(8, eight), 11);
        Due.due("fault() of n5;t0,1,2;a", x.fault(), 10);
        Due.due("write(2, 4;)", x.write(2, '4' << 8 | ';'), 13);
        Due.due("layFloor()", x.layFloor(), 5);
        Due.due("stone(4, 2)", x.stone(4, 2), 1);
        Due.due("write(8, highest bit)", x.write(8, Long.MIN_VALUE), 21);
        Due.due("fault() at byte 128", x.fault(), 13);
        x.wipe();
        Due.write(x, "a1;");
        x.write(1, -1L);
        Due.due("fault() at byte 255", x.fault(), 3);
        x.wipe();
        x.write(2, 'n');
        Due.due("write(2, n) puts a 0 first: fault()", x.fault(), 0);
        Due.due("write(2, n): count(7)", x.count(7), 2);
    }

    private static void writeRefused() {
        FloorOfProofs x = new FloorOfProofs();
        int[] wrong = {0, 9, -1, 256, Integer.MIN_VALUE, Integer.MAX_VALUE};
        for (int n : wrong) {
            Due.due("write(" + n + ", 0)", x.write(n, 0), Due.BAD);
        }
        Due.due("count(7) behind these", x.count(7), 0);
        for (int i = 1; i <= 37; i++) {
            Due.due("write(8) the " + i + "th", x.write(8, 0x61303b61303b6130L), 8 * i);
        }
        Due.due("write(5) at 296", x.write(5, 0), Due.FULL);
        Due.due("count(7) behind it", x.count(7), 296);
        Due.due("write(4) at 296", x.write(4, 0), 300);
        Due.due("write(1) at 300", x.write(1, 0), Due.FULL);
        Due.due("write(9) at 300", x.write(9, 0), Due.BAD);
        Due.due("write(0) at 300", x.write(0, 0), Due.BAD);
        Due.due("wipe() at 300", x.wipe(), 300);
        Due.due("write(8) behind it", x.write(8, 0), 8);
        x.wipe();
        for (int i = 0; i < 100; i++) {
            Due.write(x, "a3;");
        }
        Due.due("fault() of 300 bytes that are so", x.fault(), Due.NONE);
    }

    // Promise 3
    private static void wipe() {
        FloorOfProofs x = new FloorOfProofs();
        Due.write(x, "n7;t0,1,6;b");
        Due.due("wipe()", x.wipe(), 11);
        Due.due("wipe() again", x.wipe(), 0);
        Due.due("fault() behind it", x.fault(), Due.NONE);
        Due.due("count(7) behind it", x.count(7), 0);
        Due.due("wiped: count(0) of the floor stays", x.count(0), 4);
    }

    // Promise 4
    private static void fault(String text, int want) {
        FloorOfProofs x = new FloorOfProofs();
        Due.write(x, text);
        Due.due("fault() of " + text, x.fault(), want);
        Due.due("fault() of " + text + " again", x.fault(), want);
    }

    private static void faultOfItems() {
        fault("", Due.NONE);
        fault("n4;a0;a1;t0,1,2;t2,2,3;", Due.NONE);
        fault("n10;a9;t09,00,08;x0,9;w9,99;w9,0;a9;x9,0;x0,9;", Due.NONE);
        fault("z", 0);
        fault("N4;", 0);
        fault("n", 0);
        fault("n4", 0);
        fault("n4,", 0);
        fault("n;", 0);
        fault("n4;;", 3);
        fault("n4; a0;", 3);
        fault(" n4;", 0);
        fault("n4;a0", 3);
        fault("n4;a0;t0,1,2", 6);
        fault("a0;4", 3);
        fault("a0;b1;", 3);
        fault("a0;a9;b1;", 3);
        fault("t0,1,2;\n", 7);
    }

    private static void faultOfNumbers() {
        fault("a00;", Due.NONE);
        fault("a03;", Due.NONE);
        fault("a003;", 0);
        fault("w1,100;", 0);
        fault("w1,099;", 0);
        fault("w1,;", 0);
        fault("w,1;", 0);
        fault("w1;", 0);
        fault("w1,2,3;", 0);
        fault("w1;2;", 0);
        fault("w1.2;", 0);
        fault("w1,-2;", 0);
        fault("w1,+2;", 0);
        fault("w1,2,", 0);
        fault("a1,", 0);
        fault("a1,2;", 0);
        fault("n4,4;", 0);
        fault("x1;", 0);
        fault("x0,1,2;", 0);
        fault("t0,1;", 0);
        fault("t0,1,2,3;", 0);
        fault("t0,1;2;", 0);
        fault("t0,,2;", 0);
        fault("a/;", 0);
        fault("a:;", 0);
        fault("a0:", 0);
        fault("w0,:;", 0);
        fault("w0,1:;", 0);
        fault("w0,/;", 0);
        fault("w0,1/;", 0);
        fault("w0,A;", 0);
        fault("w0,9a;", 0);
        fault("w0,\u00b2;", 0);
    }

    private static void faultOfStones() {
        fault("n0;", 0);
        fault("n00;", 0);
        fault("n1;", Due.NONE);
        fault("n01;", Due.NONE);
        fault("n10;", Due.NONE);
        fault("n11;", 0);
        fault("n99;", 0);
        fault("n4;n11;", 3);
        fault("n10;n2;a1;", Due.NONE);
        fault("n10;n2;a2;", 7);
        fault("n2;n10;a9;", Due.NONE);
        fault("a0;n4;", 3);
        fault("t0,1,2;n4;", 7);
        fault("x0,1;n4;", 5);
        fault("w0,1;n4;", 5);
        fault("n5;a0;n5;", 6);
        fault("a3;", Due.NONE);
        fault("a4;", 0);
        fault("n10;a9;a10;", 7);
        fault("t0,0,1;", Due.NONE);
        fault("t0,1,0;", 0);
        fault("t0,1,1;", 0);
        fault("t0,0,0;", 0);
        fault("t4,0,1;", 0);
        fault("t0,4,1;", 0);
        fault("t0,1,4;", 0);
        fault("t3,2,1;", Due.NONE);
        fault("x1,1;", 0);
        fault("x4,1;", 0);
        fault("x1,4;", 0);
        fault("x3,0;", Due.NONE);
        fault("w4,1;", 0);
        fault("w3,99;", Due.NONE);
        fault("w3,00;", Due.NONE);
    }

    private static void faultOfTooManySteps() {
        StringBuilder text = new StringBuilder("a0;");
        for (int i = 0; i < 10; i++) {
            text.append("t0,1,2;");
        }
        fault(text.toString(), Due.NONE);
        fault(text + "a9;t0,1,2;", 73);
        fault(text + "t0,1,2;", 73);
        fault(text + "a1;t0,1,2;", 76);
    }

    // Promise 5
    private static void layFloor() {
        FloorOfProofs x = new FloorOfProofs();
        Due.write(x, "n6;a5;t5,5,0;w0,7;");
        Due.due("count(0) ahead of layFloor()", x.count(0), 4);
        Due.due("layFloor()", x.layFloor(), 6);
        Due.due("count(7): the text stays", x.count(7), 18);
        Due.due("count(0)", x.count(0), 6);
        Due.due("count(1)", x.count(1), 1);
        Due.due("count(2)", x.count(2), 6);
        Due.due("count(3)", x.count(3), 1);
        x.go(0);
        x.takeOut(3);
        Due.due("layFloor() again", x.layFloor(), 6);
        Due.due("stone(0, 1) anew", x.stone(0, 1), 0);
        Due.due("stone(0, 3) anew", x.stone(0, 3), 7);
        Due.due("stone(3, 0) anew", x.stone(3, 0), 1);
        x.wipe();
        Due.write(x, "n10;a7;t0,0,1;t0,0,2;x0,1;w0,3;w9,9;");
        Due.due("layFloor() of many", x.layFloor(), 10);
        x.wipe();
        Due.write(x, "t1,1,0;");
        Due.due("layFloor() of few", x.layFloor(), 4);
        Due.due("nothing of the floor before: stone(0, 3)", x.stone(0, 3), 0);
        Due.due("nothing of the floor before: stone(0, 4)", x.stone(0, 4), 0);
        Due.due("nothing of the floor before: stone(1, 4)", x.stone(1, 4), 0);
        Due.due("nothing of the floor before: count(1)", x.count(1), 1);
        Due.due("nothing of the floor before: stone(3, 2)", x.stone(3, 2), 0);
        Due.due("nothing of the floor before: count(3)", x.count(3), 0);
    }

    private static void layFloorForgets() {
        FloorOfProofs x = Due.floor("a0;t0,0,1;t1,1,2;");
        x.tell(0);
        x.go(0);
        x.keep();
        x.keep();
        Due.due("layFloor()", x.layFloor(), 4);
        Due.due("no told row: count(4)", x.count(4), 0);
        Due.due("nothing undone: count(5)", x.count(5), 0);
        Due.due("nothing kept: count(6)", x.count(6), 0);
        Due.due("undo()", x.undo(), Due.NO);
        Due.due("back()", x.back(), Due.NO);
        Due.due("judge()", x.judge(), Due.NONE);
    }

    private static void layFloorRefused() {
        FloorOfProofs x = new FloorOfProofs();
        x.go(0);
        x.tell(1);
        x.keep();
        String[] wrong = {"n9;a0;", "n9;t0,1,2;b", "t0,0,0;", "n9;t0,1,2"};
        for (String text : wrong) {
            x.wipe();
            Due.write(x, text);
            Due.due("layFloor() of " + text, x.layFloor(), Due.NO);
        }
        Due.due("nothing changes: count(0)", x.count(0), 4);
        Due.due("nothing changes: count(3)", x.count(3), 3);
        Due.due("nothing changes: count(4)", x.count(4), 1);
        Due.due("nothing changes: count(5)", x.count(5), 1);
        Due.due("nothing changes: count(6)", x.count(6), 1);
    }

    // Promise 6
    private static void stone() {
        FloorOfProofs x = Due.floor("n5;a0;t0,0,1;t1,1,2;x1,4;x4,2;w1,99;");
        x.go(0);
        Due.due("stone(1, 1) gone to", x.stone(1, 1), 1);
        Due.due("stone(1, 2)", x.stone(1, 2), 0);
        Due.due("stone(1, 3): above 99", x.stone(1, 3), 100);
        Due.due("stone(0, 3)", x.stone(0, 3), 0);
        Due.due("stone(4, 4)", x.stone(4, 4), Due.bits(1, 2));
        Due.due("stone(1, 4)", x.stone(1, 4), Due.bits(4));
        Due.due("stone(2, 4)", x.stone(2, 4), Due.bits(4));
        x.takeOut(0);
        Due.due("stone(0, 0) out", x.stone(0, 0), 0);
        Due.due("stone(0, 1) out", x.stone(0, 1), 0);
        Due.due("stone(0, 2) out", x.stone(0, 2), 1);
        x.takeOut(1);
        Due.due("stone(1, 3) out", x.stone(1, 3), 100);
        Due.due("stone(1, 4) out", x.stone(1, 4), Due.bits(4));
        Due.due("stone(4, 4) of one out", x.stone(4, 4), Due.bits(1, 2));
        int[][] wrong = {{5, 0}, {-1, 0}, {0, 5}, {0, -1}, {10, 9},
            {Integer.MAX_VALUE, 0}, {0, Integer.MIN_VALUE}};
        for (int[] of : wrong) {
            Due.due("stone(" + of[0] + ", " + of[1] + ")", x.stone(of[0], of[1]), Due.BAD);
        }
        Due.due("stone(4, 4) is there", x.stone(4, 0), 1);
    }

    private static void stoneOfText() {
        FloorOfProofs x = Due.floor("a1;a1;t0,1,2;w3,5;w3,8;w2,9;w2,0;x0,1;x0,1;x1,0;");
        Due.due("the last w counts: stone(3, 3)", x.stone(3, 3), 8);
        Due.due("the last w counts: stone(2, 3)", x.stone(2, 3), 0);
        Due.due("told again: stone(0, 4)", x.stone(0, 4), Due.bits(1));
        Due.due("told again: stone(1, 2)", x.stone(1, 2), 1);
        Due.due("told again: count(3)", x.count(3), 1);
    }

    // Promise 7
    private static void step() {
        FloorOfProofs x = Due.floor("n10;a3;a4;t3,4,9;t4,3,8;t9,9,0;");
        int[][] due = {{3, 4, 9, 1}, {4, 3, 8, 1}, {9, 9, 0, 0}};
        for (int t = 0; t < 3; t++) {
            for (int what = 0; what < 4; what++) {
                Due.due("step(" + t + ", " + what + ")", x.step(t, what), due[t][what]);
            }
        }
        x.go(0);
        Due.due("step(0, 3) gone", x.step(0, 3), 0);
        Due.due("step(2, 3) behind it", x.step(2, 3), 1);
        x.takeOut(0);
        Due.due("step(2, 3), C out", x.step(2, 3), 0);
        x.takeOut(4);
        Due.due("step(1, 3), A out", x.step(1, 3), 0);
        Due.due("step(1, 0), A out", x.step(1, 0), 4);
        x.undo();
        x.takeOut(3);
        Due.due("step(1, 3), B out", x.step(1, 3), 0);
        int[][] wrong = {{3, 0}, {-1, 0}, {0, 4}, {0, -1}, {10, 0},
            {Integer.MIN_VALUE, 0}, {0, Integer.MAX_VALUE}};
        for (int[] of : wrong) {
            Due.due("step(" + of[0] + ", " + of[1] + ")", x.step(of[0], of[1]), Due.BAD);
        }
        x.lay(0, 1, 2);
        Due.due("step(3, 2) laid", x.step(3, 2), 2);
    }

    // Promise 31
    private static void count() {
        FloorOfProofs x = Due.floor("n7;a0;a1;t0,1,2;t2,2,3;t2,3,4;");
        x.go(0);
        x.go(1);
        x.takeOut(5);
        x.takeOut(0);
        x.lay(1, 1, 6);
        x.tell(0);
        x.tell(0);
        x.keep();
        int[] counts = {7, 4, 5, 3, 2, 5, 1, 30};
        for (int what = 0; what < counts.length; what++) {
            Due.due("count(" + what + ")", x.count(what), counts[what]);
        }
        Due.due("count(8)", x.count(8), Due.BAD);
        Due.due("count(-1)", x.count(-1), Due.BAD);
        Due.due("count(lowest)", x.count(Integer.MIN_VALUE), Due.BAD);
        Due.due("count(highest)", x.count(Integer.MAX_VALUE), Due.BAD);
    }
}
