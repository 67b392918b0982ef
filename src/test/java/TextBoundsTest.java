/** Each sentence of DOC.md on the text that names a boundary case, in the document's order, and promises 1 to 5. */
public final class TextBoundsTest {
    private static final String[] OTHERS = {"a0;", "t0,1,2;", "x0,1;", "w0,1;"};

    public static void main(String[] args) {
        Due.bound("A TEXT is bytes (300 at most)", TextBoundsTest::bytes);
        Due.bound("ITEMS one behind the other, each a letter", TextBoundsTest::letters);
        Due.bound("numbers (one or two figures)", TextBoundsTest::figures);
        Due.bound("parted by , and ; (behind the last one, too)", TextBoundsTest::partings);
        Due.bound("there are N STONES, 0 to N less 1 (1 to 10; 4 without", TextBoundsTest::stones);
        Due.bound("no other ITEM ahead of it but n", TextBoundsTest::nothingAhead);
        Due.bound("of several the last one counts", TextBoundsTest::lastOfSeveral);
        Due.bound("one BEGINS on STONE S (any number of these)", TextBoundsTest::begins);
        Due.bound("a STEP from STONES A and B (alike: from that one alone) to C (unlike both)", TextBoundsTest::steps);
        Due.bound("10 at most, 0, 1, ..", TextBoundsTest::tenSteps);
        Due.bound("STONES A and B (unlike) GAINSAY one another (any number of these)", TextBoundsTest::gainsay);
        Due.bound("STONE S is worn by K (0 to 99)", TextBoundsTest::wear);
        Due.bound("(0 without; the last one of each)", TextBoundsTest::lastWear);
        Due.bound("the place (from 0 on) of the first byte of the first ITEM that is not so.", TextBoundsTest::place);
        Due.bound("As told; THE TEXT is empty.", TextBoundsTest::newObject);
        Due.bound("The lowest n bytes (1 to 8) of v, the highest of these first, come behind THE TEXT",
                TextBoundsTest::write);
        Due.bound("THE TEXT is empty: how long it was.", TextBoundsTest::wipe);
        Due.bound("LAID is a TEXT without FAULT, of a STEP at least (NO else;", TextBoundsTest::laidOrNo);
        Due.bound("LAID: how many STONES; no told row, nothing UNDONE, KEPT; THE TEXT stays. NO.",
                TextBoundsTest::layFloor);
        Due.end("TextBoundsTest");
    }

    private static void fault(String text, int want) {
        Due.due("fault() of " + text, Due.fault(text), want);
    }

    private static void bytes() {
        FloorOfProofs x = new FloorOfProofs();
        Due.due("fault() of 0 bytes", x.fault(), Due.NONE);
        for (int i = 0; i < 37; i++) {
            x.write(8, 0);
        }
        Due.due("write(3) at 296", x.write(3, 0), 299);
        for (int n = 2; n <= 8; n++) {
            Due.due("write(" + n + ") at 299", x.write(n, 0), Due.FULL);
        }
        Due.due("count(7), nothing of these came", x.count(7), 299);
        Due.due("write(1) at 299", x.write(1, 0), 300);
        for (int n = 1; n <= 8; n++) {
            Due.due("write(" + n + ") at 300", x.write(n, 0), Due.FULL);
        }
        Due.due("count(7) at 300", x.count(7), 300);
        x.wipe();
        for (int i = 0; i < 36; i++) {
            x.write(8, 0);
        }
        Due.due("write(8) at 288", x.write(8, 0), 296);
        Due.due("write(8) at 296", x.write(8, 0), Due.FULL);
        // The last byte of 300 counts as each other one.
        String steps = "t3,2,1;a00;a00;" + "a3;".repeat(95);
        Due.due("bytes", steps.length(), 300);
        x = Due.floor(steps);
        Due.due("count(7) of 300 bytes laid", x.count(7), 300);
        Due.due("count(3) of 300 bytes laid", x.count(3), 2);
        fault("a0;".repeat(99) + "w0,", 297);
        fault("a0;".repeat(99) + "a00", 297);
        fault("a0;".repeat(99) + "a0:", 297);
        fault("a0;".repeat(98) + "t0,0,1", 294);
    }

    private static void letters() {
        String[] numbers = {"", "1", "0,1", "0,1,2", "0,1,2,3"};
        String[] letters = {"", "na", "xw", "t", ""};
        for (int sign = 0; sign < 256; sign++) {
            for (int i = 0; i < numbers.length; i++) {
                String item = (char) sign + numbers[i] + ";";
                int want = letters[i].indexOf(sign) >= 0 ? Due.NONE : 0;
                Due.due("fault() of sign " + sign + " ahead of " + numbers[i] + ";", Due.fault(item), want);
            }
        }
        // Nothing may stand ahead of an item, between two or behind the last one.
        for (String other : OTHERS) {
            fault(other, Due.NONE);
            fault(other + other, Due.NONE);
            fault(" " + other, 0);
            fault(other + " " + other, other.length());
            fault(other + "\0", other.length());
            fault(other + ";", other.length());
            fault(other + other.charAt(0), other.length());
        }
    }

    private static void figures() {
        String[] ahead = {"n", "a", "t", "t0,", "t0,3,", "x", "x0,", "w", "w0,"};
        String[] behind = {";", ";", ",3,0;", ",3;", ";", ",3;", ";", ",9;", ";"};
        for (int i = 0; i < ahead.length; i++) {
            fault(ahead[i] + behind[i], 0);
            fault(ahead[i] + "1" + behind[i], Due.NONE);
            fault(ahead[i] + "01" + behind[i], Due.NONE);
            fault(ahead[i] + "001" + behind[i], 0);
            fault(ahead[i] + "100" + behind[i], 0);
            fault(ahead[i] + "1 " + behind[i], 0);
            fault(ahead[i] + " 1" + behind[i], 0);
            fault(ahead[i] + "-1" + behind[i], 0);
        }
        for (int sign = 0; sign < 256; sign++) {
            boolean figure = sign >= '0' && sign <= '9';
            Due.due("fault() of w0, and sign " + sign, Due.fault("w0," + (char) sign + ";"), figure ? Due.NONE : 0);
            // A second ; is an item of its own.
            int want = figure ? Due.NONE : sign == ';' ? 5 : 0;
            Due.due("fault() of w0,1 and sign " + sign, Due.fault("w0,1" + (char) sign + ";"), want);
        }
        FloorOfProofs x = Due.floor("n10;a09;t09,9,00;w00,07;w9,70;");
        Due.due("two figures: stone(0, 3)", x.stone(0, 3), 7);
        Due.due("two figures: stone(9, 3)", x.stone(9, 3), 70);
        Due.due("two figures: step(0, 0)", x.step(0, 0), 9);
        Due.due("two figures: go(0)", x.go(0), 2);
    }

    private static void partings() {
        for (int sign = 0; sign < 256; sign++) {
            char c = (char) sign;
            Due.due("fault() of w1 sign " + sign + " 2;", Due.fault("w1" + c + "2;"), sign == ',' ? Due.NONE : 0);
            Due.due("fault() of x1 sign " + sign + " 2;", Due.fault("x1" + c + "2;"), sign == ',' ? Due.NONE : 0);
            Due.due("fault() of t0 sign " + sign + " 1,2;", Due.fault("t0" + c + "1,2;"), sign == ',' ? Due.NONE : 0);
            Due.due("fault() of t0,1 sign " + sign + " 2;", Due.fault("t0,1" + c + "2;"), sign == ',' ? Due.NONE : 0);
            for (String item : new String[] {"n1", "a1", "t0,1,2", "x0,1", "w0,1"}) {
                Due.due("fault() of " + item + " sign " + sign, Due.fault(item + c), sign == ';' ? Due.NONE : 0);
                int ahead = Due.fault("a3;" + item + c);
                Due.due("fault() of a3;" + item + " sign " + sign, ahead,
                        sign == ';' && item.charAt(0) != 'n' ? Due.NONE : 3);
            }
        }
        for (String item : new String[] {"n1", "a1", "t0,1,2", "x0,1", "w0,1"}) {
            fault(item, 0);
            fault(item + ",", 0);
            fault(item + ",;", 0);
            fault(item.charAt(0) + "," + item.substring(1) + ";", 0);
        }
    }

    private static void stones() {
        for (int n = 0; n < 100; n++) {
            int want = n >= 1 && n <= 10 ? Due.NONE : 0;
            fault("n" + n + ";", want);
            fault(String.format("n%02d;", n), want);
        }
        for (int n = 1; n <= 10; n++) {
            String ahead = "n" + n + ";";
            fault(ahead + "a" + (n - 1) + ";", Due.NONE);
            fault(ahead + "a" + n + ";", ahead.length());
            fault(ahead + "w" + (n - 1) + ",0;", Due.NONE);
            fault(ahead + "w" + n + ",0;", ahead.length());
        }
        for (int n = 2; n <= 10; n++) {
            FloorOfProofs x = new FloorOfProofs();
            Due.write(x, "n" + n + ";t" + (n - 1) + "," + (n - 1) + ",0;");
            Due.due("layFloor() of n" + n, x.layFloor(), n);
            Due.due("n" + n + ": count(0)", x.count(0), n);
            Due.due("n" + n + ": count(2)", x.count(2), n);
            Due.due("n" + n + ": stone(" + (n - 1) + ", 0)", x.stone(n - 1, 0), 1);
            Due.due("n" + n + ": stone(" + n + ", 0)", x.stone(n, 0), Due.BAD);
            Due.due("n" + n + ": stone(-1, 0)", x.stone(-1, 0), Due.BAD);
        }
        fault("a3;", Due.NONE);
        fault("a4;", 0);
        FloorOfProofs x = new FloorOfProofs();
        Due.write(x, "n7;t0,1,2;");
        x.layFloor();
        x.wipe();
        Due.write(x, "t0,1,2;");
        Due.due("layFloor() without n", x.layFloor(), 4);
        Due.due("without n: stone(4, 0)", x.stone(4, 0), Due.BAD);
    }

    private static void nothingAhead() {
        fault("n5;n4;n5;", Due.NONE);
        for (String other : OTHERS) {
            fault("n4;" + other, Due.NONE);
            fault(other + "n4;", other.length());
            fault("n4;" + other + "n4;", 3 + other.length());
            fault("n4;n5;" + other + "n5;", 6 + other.length());
            fault("n4;" + other + "n4;n4;", 3 + other.length());
        }
    }

    private static void lastOfSeveral() {
        fault("n2;n9;a8;", Due.NONE);
        fault("n2;n9;a9;", 6);
        fault("n9;n2;a1;", Due.NONE);
        fault("n9;n2;a2;", 6);
        fault("n9;n2;n5;a4;", Due.NONE);
        fault("n9;n2;n5;a5;", 9);
        // Each of them is to be so.
        fault("n11;n4;", 0);
        fault("n0;n4;", 0);
        fault("n4;n11;", 3);
        fault("n4;n0;n4;", 3);
        Due.due("n9;n2: count(0)", Due.floor("n9;n2;t0,0,1;").count(0), 2);
        Due.due("n2;n9: count(2)", Due.floor("n2;n9;t0,0,1;").count(2), 9);
    }

    private static void begins() {
        FloorOfProofs x = Due.floor("n10;t0,0,1;");
        Due.due("none: count(3)", x.count(3), 0);
        Due.due("none: stone(0, 2)", x.stone(0, 2), 0);
        x = Due.floor("n10;t0,0,1;a0;a1;a2;a3;a4;a5;a6;a7;a8;a9;");
        Due.due("ten: count(3)", x.count(3), 10);
        for (int s = 0; s < 10; s++) {
            Due.due("ten: stone(" + s + ", 2)", x.stone(s, 2), 1);
        }
        x = Due.floor("n10;t0,0,1;" + "a9;".repeat(96));
        Due.due("one told 96 times: count(3)", x.count(3), 1);
        Due.due("one told 96 times: stone(9, 2)", x.stone(9, 2), 1);
        Due.due("one told 96 times: stone(8, 2)", x.stone(8, 2), 0);
    }

    private static void steps() {
        for (int a = 0; a < 5; a++) {
            for (int b = 0; b < 5; b++) {
                for (int c = 0; c < 5; c++) {
                    boolean so = a < 4 && b < 4 && c < 4 && c != a && c != b;
                    fault("t" + a + "," + b + "," + c + ";", so ? Due.NONE : 0);
                }
            }
        }
        FloorOfProofs x = Due.floor("a1;t1,1,2;t1,0,3;t0,1,3;");
        Due.due("from one alone: step(0, 3)", x.step(0, 3), 1);
        Due.due("from two: step(1, 3)", x.step(1, 3), 0);
        Due.due("from two: step(2, 3)", x.step(2, 3), 0);
        Due.due("from one alone: go(0)", x.go(0), 2);
    }

    private static void tenSteps() {
        StringBuilder text = new StringBuilder("n10;");
        for (int t = 0; t < 10; t++) {
            int end = (t + 7) % 10;
            text.append("t0,").append(end == 1 ? 2 : 1).append(',').append(end == 0 ? 3 : end).append(';');
            fault(text.toString(), Due.NONE);
        }
        fault(text + "t0,0,1;", text.length());
        fault(text + "a0;t0,0,1;", text.length() + 3);
        FloorOfProofs x = Due.floor(text.toString());
        Due.due("ten: count(1)", x.count(1), 10);
        for (int t = 0; t < 10; t++) {
            int end = (t + 7) % 10;
            Due.due("step(" + t + ", 2)", x.step(t, 2), end == 0 ? 3 : end);
        }
        Due.due("step(10, 2)", x.step(10, 2), Due.BAD);
        Due.due("lay(0, 0, 1) as the 11th", x.lay(0, 0, 1), Due.FULL);
        fault("t0,0,1;".repeat(10), Due.NONE);
        fault("t0,0,1;".repeat(11), 70);
    }

    private static void gainsay() {
        for (int a = 0; a < 5; a++) {
            for (int b = 0; b < 5; b++) {
                fault("x" + a + "," + b + ";", a < 4 && b < 4 && a != b ? Due.NONE : 0);
            }
        }
        FloorOfProofs x = Due.floor("n10;t0,0,1;");
        Due.due("none: stone(0, 4)", x.stone(0, 4), 0);
        StringBuilder text = new StringBuilder("n10;t0,0,1;");
        for (int a = 0; a < 10; a++) {
            for (int b = 0; b < a; b++) {
                text.append('x').append(a % 2 == 0 ? a : b).append(',').append(a % 2 == 0 ? b : a).append(';');
            }
        }
        x = Due.floor(text.toString());
        for (int s = 0; s < 10; s++) {
            Due.due("all 45: stone(" + s + ", 4)", x.stone(s, 4), 1023 & ~Due.bits(s));
        }
        x = Due.floor("t0,0,1;" + "x3,0;".repeat(58));
        Due.due("one told 58 times: stone(3, 4)", x.stone(3, 4), Due.bits(0));
        Due.due("one told 58 times: stone(0, 4)", x.stone(0, 4), Due.bits(3));
        Due.due("one told 58 times: stone(1, 4)", x.stone(1, 4), 0);
    }

    private static void wear() {
        for (int k = 0; k < 100; k++) {
            Due.due("w3," + k + ": stone(3, 3)", Due.floor("t0,0,1;w3," + k + ";").stone(3, 3), k);
        }
        fault("w3,100;", 0);
        fault("w4,0;", 0);
        fault("n10;w9,99;w10,0;", 10);
    }

    private static void lastWear() {
        FloorOfProofs x = Due.floor("t0,0,1;w0,5;w1,99;w0,7;w2,9;w1,0;w0,6;");
        int[] worn = {6, 0, 9, 0};
        for (int s = 0; s < worn.length; s++) {
            Due.due("stone(" + s + ", 3)", x.stone(s, 3), worn[s]);
        }
        Due.lay(x, "t0,0,1;");
        for (int s = 0; s < worn.length; s++) {
            Due.due("without: stone(" + s + ", 3)", x.stone(s, 3), 0);
        }
    }

    private static void place() {
        fault("z", 0);
        fault("a4;", 0);
        fault("a3;a4;", 3);
        fault("a0;w0,1;x0,1;t0,1,2;q", 20);
        // Where the item begins, not where it goes wrong.
        fault("a0;t0,1,2,", 3);
        fault("a0;t0,1,4;", 3);
        fault("a0;t00,01,01;", 3);
        fault("a0;w0,1", 3);
        // The first of several, by whatever it is not so.
        fault("a0;x1,1;a9;n4;;", 3);
        fault("a0;n4;x1,1;", 3);
        fault("a0;;x1,1;", 3);
        fault("t0,0,1;".repeat(10) + "t0,0,1;a4;", 70);
        fault("t0,0,1;".repeat(10) + "a4;t0,0,1;", 70);
        fault("a3;".repeat(99) + "a4;", 297);
    }

    private static void newObject() {
        FloorOfProofs x = new FloorOfProofs();
        FloorOfProofs told = Due.floor("n4;a0;a1;t0,1,2;t2,2,3;");
        told.wipe();
        Due.due("as the told text laid", State.all(x).equals(State.all(told)) ? 1 : 0, 1);
        Due.due("count(7)", x.count(7), 0);
        Due.due("wipe()", x.wipe(), 0);
        Due.due("undo()", x.undo(), Due.NO);
        Due.due("back()", x.back(), Due.NO);
        Due.due("noRow()", x.noRow(), 0);
        Due.due("layFloor()", x.layFloor(), Due.NO);
    }

    private static void write() {
        String[] texts = {";", "0;", "a0;", "a00;", "x0,1;", "x0,01;", "t0,1,2;", "t0,1,02;"};
        for (int n = 1; n <= 8; n++) {
            for (long above : new long[] {0, -1, 0x6161616161616161L}) {
                FloorOfProofs x = new FloorOfProofs();
                Due.write(x, n == 1 ? "a1" : n == 2 ? "a" : "");
                int ahead = x.count(7);
                long v = above;
                for (int i = 0; i < n; i++) {
                    v = v << 8 | texts[n - 1].charAt(i);
                }
                Due.due("write(" + n + ", " + v + ")", x.write(n, v), ahead + n);
                Due.due("fault() behind write(" + n + ", " + v + ")", x.fault(), Due.NONE);
                Due.due("write(1, z)", x.write(1, 'z'), ahead + n + 1);
                Due.due("fault() behind z", x.fault(), ahead + n);
            }
        }
        FloorOfProofs x = new FloorOfProofs();
        for (int n : new int[] {0, -1, -8, 9, 16, 257, Integer.MIN_VALUE, Integer.MAX_VALUE}) {
            Due.due("write(" + n + ")", x.write(n, 'a'), Due.BAD);
        }
        Due.due("count(7) behind these", x.count(7), 0);
    }

    private static void wipe() {
        FloorOfProofs x = new FloorOfProofs();
        Due.due("wipe() of 0", x.wipe(), 0);
        x.write(1, 'b');
        Due.due("wipe() of 1", x.wipe(), 1);
        Due.write(x, "b".repeat(300));
        Due.due("fault() of 300", x.fault(), 0);
        Due.due("wipe() of 300", x.wipe(), 300);
        Due.due("wipe() again", x.wipe(), 0);
        Due.due("fault()", x.fault(), Due.NONE);
        Due.due("write(2)", x.write(2, 'a' << 8 | '1'), 2);
        Due.due("fault() of a1", x.fault(), 0);
        Due.due("write(1)", x.write(1, ';'), 3);
        Due.due("fault() of a1;", x.fault(), Due.NONE);
    }

    private static void laidOrNo() {
        String[] no = {"", "n1;", "n10;", "a0;a1;x0,1;w0,1;", "t0,1,2", "t0,1,2;;", "t0,1,2;a4;", "n1;t0,0,0;",
            "t0,0,1;".repeat(11)};
        for (String text : no) {
            FloorOfProofs x = new FloorOfProofs();
            Due.write(x, text);
            String before = State.all(x);
            Due.due("layFloor() of " + text, x.layFloor(), Due.NO);
            Due.due("nothing changes by " + text, State.all(x).equals(before) ? 1 : 0, 1);
        }
        FloorOfProofs x = new FloorOfProofs();
        Due.write(x, "t0,1,2;");
        Due.due("layFloor() of one step", x.layFloor(), 4);
        Due.due("count(1) of one step", x.count(1), 1);
        x = new FloorOfProofs();
        Due.write(x, "n2;t1,1,0;");
        Due.due("layFloor() of the fewest stones", x.layFloor(), 2);
    }

    private static void layFloor() {
        FloorOfProofs x = Due.floor("n6;a5;t5,5,0;t5,5,1;w0,99;");
        String fresh = State.all(x);
        x.go(0);
        x.takeOut(5);
        for (int t = 2; t < 10; t++) {
            x.lay(5, 4, 3);
        }
        for (int i = 0; i < 12; i++) {
            x.tell(i % 10);
        }
        x.keep();
        x.keep();
        int[] full = {12, 8, 2, 26};
        for (int i = 0; i < full.length; i++) {
            Due.due("ahead of layFloor(): count(" + (i + 4) + ")", x.count(i + 4), full[i]);
        }
        Due.due("layFloor()", x.layFloor(), 6);
        Due.due("as at first", State.all(x).equals(fresh) ? 1 : 0, 1);
        int[] none = {0, 0, 0, 26};
        for (int i = 0; i < none.length; i++) {
            Due.due("behind layFloor(): count(" + (i + 4) + ")", x.count(i + 4), none[i]);
        }
        Due.due("undo()", x.undo(), Due.NO);
        Due.due("back()", x.back(), Due.NO);
        Due.due("layFloor() again, for the text stays", x.layFloor(), 6);
        Due.due("keep() anew", x.keep(), 1);
        Due.due("tell(0) anew", x.tell(0), 1);
        Due.due("wipe()", x.wipe(), 26);
        // From the largest floor to the smallest: nothing of the one before stays.
        FloorOfProofs bare = Due.floor("n2;t0,0,1;");
        Due.lay(x, "n10;a0;a1;a9;" + "t9,8,7;".repeat(10) + "x0,1;x8,9;w0,9;w1,99;w9,9;");
        Due.lay(x, "n2;t0,0,1;");
        Due.due("as on a new object", State.all(x).equals(State.all(bare)) ? 1 : 0, 1);
        Due.due("none begun on: reach(3)", x.reach(3), 3);
        Due.due("none begun on: hall(0)", x.hall(0), 0);
        Due.lay(x, "n10;t0,0,1;");
        Due.due("stone(9, 2) of the floor before the last", x.stone(9, 2), 0);
        Due.due("stone(9, 3) of the floor before the last", x.stone(9, 3), 0);
        Due.due("stone(9, 4) of the floor before the last", x.stone(9, 4), 0);
        Due.due("step(1, 0) of the floor before the last", x.step(1, 0), Due.BAD);
    }
}
