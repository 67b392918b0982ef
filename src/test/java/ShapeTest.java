/** Promises 20 to 22: steps that are nothing new, circles, how deep it is. */
public final class ShapeTest {
    private static final String CHAIN =
            "n10;t0,0,1;t1,1,2;t2,2,3;t3,3,4;t4,4,5;t5,5,6;t6,6,7;t7,7,8;t8,8,9;";

    public static void main(String[] args) {
        idle();
        idleWhateverIsThere();
        circle();
        circleWhateverIsThere();
        deep();
        deepWhateverIsThere();
        Due.end("ShapeTest");
    }

    private static void idle(String text, int want) {
        Due.due("idle() of " + text, Due.floor(text).idle(), want);
    }

    // Promise 20
    private static void idle() {
        idle("t0,0,1;", 0);
        idle(CHAIN, 0);
        idle("t0,0,1;t1,1,2;t0,0,2;", Due.bits(2));
        idle("t0,1,2;t1,0,2;t0,0,2;", Due.bits(0, 1));
        idle("t0,0,1;t3,3,2;t0,0,1;", Due.bits(0, 2));
        idle("t0,0,1;t1,1,2;t2,2,0;", 0);
        // From its two alone: 3 does not come with them.
        idle("a3;t0,1,2;t0,3,2;", 0);
        idle("a3;t0,1,2;t0,1,3;t0,3,2;", Due.bits(0));
        // By other steps that stand ahead of it and behind it.
        idle("n6;t2,2,3;t4,4,5;t0,0,5;t0,0,2;t3,0,4;", Due.bits(2));
    }

    private static void idleWhateverIsThere() {
        FloorOfProofs x = Due.floor("a0;t0,0,1;t1,1,2;t0,0,2;");
        x.takeOut(1);
        Due.due("1 out: idle()", x.idle(), Due.bits(2));
        x.takeOut(0);
        x.takeOut(2);
        Due.due("all out: idle()", x.idle(), Due.bits(2));
        x.lay(0, 0, 1);
        Due.due("one laid: idle()", x.idle(), Due.bits(0, 2, 3));
        x.undo();
        Due.due("undone: idle()", x.idle(), Due.bits(2));
    }

    private static void circle(String text, int want) {
        Due.due("circle() of " + text, Due.floor(text).circle(), want);
    }

    // Promise 21
    private static void circle() {
        circle("t0,0,1;", Due.NONE);
        circle(CHAIN, Due.NONE);
        circle("t0,1,2;t0,2,3;t1,2,3;", Due.NONE);
        circle("n6;t5,5,4;t4,4,5;t3,3,2;t2,2,3;", 2);
        // 0 leads into the circle, 3 out of it: neither is in it.
        circle("t0,0,1;t1,1,2;t2,2,1;t2,2,3;", 1);
        circle("n5;t4,3,1;t1,0,3;", 1);
        circle("n5;t3,4,1;t0,1,3;", 1);
        circle("n10;t9,0,8;t8,0,7;t7,0,9;", 7);
        circle(CHAIN + "t9,9,0;", 0);
        circle(CHAIN + "t9,9,8;", 8);
    }

    private static void circleWhateverIsThere() {
        FloorOfProofs x = Due.floor("a0;t0,0,1;t1,2,0;");
        Due.due("circle()", x.circle(), 0);
        x.takeOut(0);
        x.takeOut(1);
        Due.due("out: circle()", x.circle(), 0);
        x = Due.floor("t1,1,2;");
        x.lay(2, 0, 1);
        Due.due("laid: circle()", x.circle(), 1);
        x.undo();
        Due.due("undone: circle()", x.circle(), Due.NONE);
    }

    private static void deep(String text, int want) {
        Due.due("deep() of " + text, Due.floor(text).deep(), want);
    }

    // Promise 22
    private static void deep() {
        deep("t0,0,1;", 1);
        deep("t0,0,3;t1,1,3;t2,2,3;", 1);
        deep("n6;t4,3,5;t2,0,4;t0,1,2;", 3);
        deep("n6;t3,4,5;t0,2,4;t0,1,2;", 3);
        deep("n6;t0,0,1;t1,1,2;t0,0,2;t2,2,3;t0,0,3;", 3);
        deep(CHAIN, 9);
        deep(CHAIN + "t0,5,9;", 9);
        deep(CHAIN + "t9,9,0;", Due.NONE);
        deep(CHAIN + "t9,9,8;", Due.NONE);
        deep("t2,2,3;t3,3,2;t0,0,1;", Due.NONE);
    }

    private static void deepWhateverIsThere() {
        FloorOfProofs x = Due.floor("a0;t0,0,1;t1,1,2;");
        x.takeOut(1);
        Due.due("1 out: deep()", x.deep(), 2);
        x.lay(2, 2, 3);
        Due.due("laid: deep()", x.deep(), 3);
        x.lay(3, 3, 1);
        Due.due("a circle laid: deep()", x.deep(), Due.NONE);
        x.undo();
        Due.due("undone: deep()", x.deep(), 3);
    }
}
