/** What the tests share: it compares answers with those that are due, and ends a test. */
final class Check {
    // Written out, so that the tests fail if the program's own constants change.
    static final int INVALID = -1000001;
    static final int NOT_POSSIBLE = -1000002;
    static final int LIMIT = -1000003;
    static final int NOT_FOUND = -1000004;

    private static int wrong;

    private Check() {
    }

    static void due(String call, int got, int want) {
        if (got != want) {
            wrong++;
            System.out.println(call + " answered " + got + ", due is " + want);
        }
    }

    /** Ends the test: with exit code 1 if an answer was not as due. */
    static void end() {
        System.out.println(wrong == 0 ? "all answers are as due" : wrong + " answers are not as due");
        if (wrong != 0) {
            System.exit(1);
        }
    }

    /** A new object with so many islands besides the mainland, of fare 5. */
    static CoatedBridges withIslands(int many) {
        CoatedBridges x = new CoatedBridges();
        for (int i = 1; i <= many; i++) {
            due("island(5)", x.island(5), i);
        }
        return x;
    }

    /** The mainland and the island 1, with so many bridges of a wear between them. */
    static CoatedBridges withBridges(int many, int wear) {
        CoatedBridges x = withIslands(1);
        for (int i = 0; i < many; i++) {
            due("bridge(0, 1, " + wear + ")", x.bridge(0, 1, wear), i);
        }
        return x;
    }

    static void write(CoatedBridges x, String text) {
        x.clearText();
        for (int i = 0; i < text.length(); i++) {
            due("type of " + text, x.type(text.charAt(i)), i + 1);
        }
    }

    static void dueFault(String text, CoatedBridges x, int position, int reason, int cause) {
        write(x, text);
        due("fault(0) of " + text, x.fault(0), position);
        due("fault(1) of " + text, x.fault(1), reason);
        due("fault(2) of " + text, x.fault(2), cause);
        due("play() of " + text, x.play(), NOT_POSSIBLE);
    }

    static void dueNoFault(String text, CoatedBridges x) {
        write(x, text);
        for (int what = 0; what <= 2; what++) {
            due("fault(" + what + ") of " + text, x.fault(what), NOT_FOUND);
        }
    }
}
