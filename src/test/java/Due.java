/** What the tests share: answers that are due, floors from a text, draws that are always the same. */
final class Due {
    static final int BAD = -1;
    static final int NO = -2;
    static final int FULL = -3;
    static final int NONE = -4;

    private static int asked = 0;
    private static int wrong = 0;
    private static String under = "";

    private Due() {
    }

    static void due(String call, long got, long want) {
        asked++;
        if (got != want) {
            wrong++;
            System.out.println(under + call + " answered " + got + ", due is " + want);
        }
    }

    /** Runs the test of one sentence of DOC.md: what is wrong by it is told under the sentence. */
    static void bound(String sentence, Runnable test) {
        int before = asked;
        under = "\"" + sentence + "\": ";
        test.run();
        due("answers asked for", asked > before ? 1 : 0, 1);
        under = "";
    }

    /** Writes a text behind the text, byte by byte (signs 0 to 255). */
    static void write(FloorOfProofs x, String text) {
        for (int i = 0; i < text.length(); i++) {
            x.write(1, text.charAt(i));
        }
    }

    static FloorOfProofs floor(String text) {
        FloorOfProofs x = new FloorOfProofs();
        lay(x, text);
        return x;
    }

    static void lay(FloorOfProofs x, String text) {
        x.wipe();
        write(x, text);
        if (x.layFloor() < 1) {
            due("layFloor() of " + text + ", fault " + x.fault() + ":", 0, 1);
        }
    }

    /** The fault of a text on a new object. */
    static int fault(String text) {
        FloorOfProofs x = new FloorOfProofs();
        write(x, text);
        return x.fault();
    }

    static int bits(int... numbers) {
        int set = 0;
        for (int number : numbers) {
            set |= 1 << number;
        }
        return set;
    }

    /** Ends the test: with exit code 1 if an answer was wrong, or if none was asked for. */
    static void end(String test) {
        System.out.println(test + ": " + asked + " answers, " + wrong + " not as due");
        if (wrong != 0 || asked == 0) {
            System.exit(1);
        }
    }
}
