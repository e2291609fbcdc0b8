/** What the tests share: it compares answers with those that are due, and ends a test. */
final class Check {
    // Written out, so that the tests fail if the program's own constants change.
    static final int INVALID = -1000001;
    static final int NOT_POSSIBLE = -1000002;
    static final int LIMIT = -1000003;
    static final int NOT_FOUND = -1000004;

    private static final int COUNTS = 28;
    private static final int STATES = 4;

    private static String sentence = "";
    private static int wrong;

    /** Calls that bring a new object into a state. */
    interface Way {
        void go(CoatedBridges x);
    }

    interface Call {
        int on(CoatedBridges x);
    }

    private Check() {
    }

    /** Names the sentence of the document that the answers to come are due by. */
    static void sentence(String ofTheDocument) {
        sentence = ofTheDocument;
    }

    static void due(String call, int got, int want) {
        if (got != want) {
            wrong++;
            String by = sentence.isEmpty() ? "" : " (" + sentence + ")";
            System.out.println(call + " answered " + got + ", due is " + want + by);
        }
    }

    /** Ends the test: with exit code 1 if an answer was not as due. */
    static void end() {
        System.out.println(wrong == 0 ? "all answers are as due" : wrong + " answers are not as due");
        if (wrong != 0) {
            System.exit(1);
        }
    }

    static CoatedBridges after(Way way) {
        CoatedBridges x = new CoatedBridges();
        way.go(x);
        return x;
    }

    /** The call is refused, and nothing has changed behind it. */
    static void dueRefused(String call, int error, Way way, Call refused) {
        dueUnchanged(call, error, way, refused);
    }

    /** Behind the call the object answers as one does on which it was not made. */
    static void dueUnchanged(String call, int answer, Way way, Call made) {
        CoatedBridges x = after(way);
        due(call, made.on(x), answer);
        dueSame("behind " + call + ", ", x, after(way));
    }

    /** Some 450 calls on each for 8 islands and 14 bridges: what is called ahead of them has to stay below 60. */
    static void dueSame(String where, CoatedBridges x, CoatedBridges twin) {
        dueSameCounts(where, x, twin);
        dueSameIslands(where, x, twin);
        dueSameBridges(where, x, twin);
        dueSameOutlook(where, x, twin);
        for (int undone = 0; undone <= STATES; undone++) {
            int left = twin.undo();
            due(where + "undo()", x.undo(), left);
            if (left < 0) {
                break;
            }
            dueSameCounts(where + "behind undo(), ", x, twin);
        }
        due(where + "play()", x.play(), twin.play());
        dueSameCounts(where + "behind play(), ", x, twin);
    }

    private static void dueSameCounts(String where, CoatedBridges x, CoatedBridges twin) {
        for (int what = 0; what < COUNTS; what++) {
            due(where + "count(" + what + ")", x.count(what), twin.count(what));
        }
    }

    private static void dueSameIslands(String where, CoatedBridges x, CoatedBridges twin) {
        int islands = twin.count(1);
        for (int i = 0; i < islands; i++) {
            for (int what = 0; what <= 7; what++) {
                due(where + "islandOf(" + i + ", " + what + ")", x.islandOf(i, what), twin.islandOf(i, what));
            }
            due(where + "reach(" + i + ")", x.reach(i), twin.reach(i));
        }
    }

    private static void dueSameBridges(String where, CoatedBridges x, CoatedBridges twin) {
        int bridges = twin.count(2);
        for (int i = 0; i < bridges; i++) {
            for (int what = 0; what <= 8; what++) {
                due(where + "bridgeOf(" + i + ", " + what + ")", x.bridgeOf(i, what), twin.bridgeOf(i, what));
            }
            due(where + "why(" + i + ", 0)", x.why(i, 0), twin.why(i, 0));
            due(where + "why(" + i + ", 1)", x.why(i, 1), twin.why(i, 1));
            due(where + "rustsIn(" + i + ")", x.rustsIn(i), twin.rustsIn(i));
            due(where + "paintedIn(" + i + ")", x.paintedIn(i), twin.paintedIn(i));
        }
    }

    private static void dueSameOutlook(String where, CoatedBridges x, CoatedBridges twin) {
        for (int ago = 0; ago <= 8; ago++) {
            due(where + "book(" + ago + ", 0)", x.book(ago, 0), twin.book(ago, 0));
            due(where + "book(" + ago + ", 1)", x.book(ago, 1), twin.book(ago, 1));
        }
        due(where + "best()", x.best(), twin.best());
        due(where + "aloneIn()", x.aloneIn(), twin.aloneIn());
        due(where + "ifDays(99)", x.ifDays(99), twin.ifDays(99));
        due(where + "mean()", x.mean(), twin.mean());
        for (int what = 0; what <= 2; what++) {
            due(where + "fault(" + what + ")", x.fault(what), twin.fault(what));
        }
    }

    /** A new object with so many islands besides the mainland, of fare 5. */
    static CoatedBridges withIslands(int many) {
        CoatedBridges x = new CoatedBridges();
        addIslands(x, many);
        return x;
    }

    static void addIslands(CoatedBridges x, int many) {
        for (int i = 1; i <= many; i++) {
            due("island(5)", x.island(5), i);
        }
    }

    /** The mainland and the island 1, with so many bridges of a wear between them. */
    static CoatedBridges withBridges(int many, int wear) {
        CoatedBridges x = new CoatedBridges();
        addBridges(x, many, wear);
        return x;
    }

    static void addBridges(CoatedBridges x, int many, int wear) {
        addIslands(x, 1);
        for (int i = 0; i < many; i++) {
            due("bridge(0, 1, " + wear + ")", x.bridge(0, 1, wear), i);
        }
    }

    /** Something of everything: a painted, a rusted and two open bridges, complaints, ferries, a text with a fault. */
    static void busy(CoatedBridges x) {
        x.island(20);
        x.island(9);
        x.island(3);
        x.bridge(0, 1, 9);
        x.bridge(0, 1, 5);
        x.bridge(1, 2, 1);
        x.days(12);
        x.bridge(0, 1, 7);
        x.set(3, 1);
        x.days(2);
        x.send(1, 0);
        write(x, "p7;d3;x");
    }

    /** The first coins are spent on ferries to a last island of the fare 50, and no coins come: an empty purse. */
    static void emptyThePurse(CoatedBridges x) {
        x.set(5, 0);
        x.island(50);
        x.set(3, 1);
        x.days(4);
        x.set(3, 0);
        due("count(13) of the empty purse", x.count(13), 0);
    }

    static void write(CoatedBridges x, String text) {
        x.clearText();
        for (int i = 0; i < text.length(); i++) {
            due("type of " + text, x.type(text.charAt(i)), i + 1);
        }
    }

    static void dueFault(String text, CoatedBridges x, int position, int reason, int cause) {
        write(x, text);
        due("fault(0) of " + text, x.fault(0), position);
        due("fault(1) of " + text, x.fault(1), reason);
        due("fault(2) of " + text, x.fault(2), cause);
        due("play() of " + text, x.play(), NOT_POSSIBLE);
    }

    static void dueNoFault(String text, CoatedBridges x) {
        write(x, text);
        for (int what = 0; what <= 2; what++) {
            due("fault(" + what + ") of " + text, x.fault(what), NOT_FOUND);
        }
    }
}
