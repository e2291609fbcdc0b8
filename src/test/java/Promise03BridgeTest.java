public final class Promise03BridgeTest {
    private static final int[][] WRONG = {
        {-1, 0, 1}, {0, -1, 1}, {3, 0, 1}, {0, 3, 1}, {7, 0, 1}, {0, 7, 1}, {8, 0, 1}, {0, 8, 1}, {-1, 8, 1},
        {Integer.MAX_VALUE, 0, 1}, {Integer.MIN_VALUE, 0, 1}, {0, Integer.MAX_VALUE, 1}, {0, Integer.MIN_VALUE, 1},
        {0, 0, 1}, {1, 1, 5}, {2, 2, 9},
        {0, 1, 0}, {0, 1, 10}, {0, 1, -1}, {0, 1, Integer.MAX_VALUE}, {0, 1, Integer.MIN_VALUE}, {3, 3, 0},
    };

    public static void main(String[] args) {
        theEnds();
        wrongArguments();
        numbers();
        aFifteenthBridge();
        errorsInTheirOrder();
        aNewBridge();
        newOneIsNotTheOneThatWasUndone();
        Check.end();
    }

    private static void theEnds() {
        Check.sentence("one: number of an island; other: number of another island; wear: 1 to 9");
        CoatedBridges x = Check.withIslands(7);
        Check.due("bridge(0, 7, 1)", x.bridge(0, 7, 1), 0);
        Check.due("bridge(7, 0, 9)", x.bridge(7, 0, 9), 1);
        Check.due("bridge(7, 6, 2)", x.bridge(7, 6, 2), 2);
        Check.due("bridge(6, 7, 8)", x.bridge(6, 7, 8), 3);
        dueBridge(x, 0, 0, 7, 1);
        dueBridge(x, 1, 7, 0, 9);
        dueBridge(x, 2, 7, 6, 2);
        dueBridge(x, 3, 6, 7, 8);
    }

    private static void dueBridge(CoatedBridges x, int bridge, int one, int other, int wear) {
        int[] due = {one, other, wear, 100, 0, 0, 0, 0};
        for (int what = 0; what < due.length; what++) {
            Check.due("bridgeOf(" + bridge + ", " + what + ")", x.bridgeOf(bridge, what), due[what]);
        }
    }

    private static void wrongArguments() {
        Check.sentence("INVALID_ARGUMENT if an argument is out of range, or both islands are the same");
        for (int[] a : WRONG) {
            Check.dueRefused(told(a), Check.INVALID, x -> Check.addIslands(x, 2), x -> x.bridge(a[0], a[1], a[2]));
        }
        CoatedBridges x = Check.withIslands(2);
        Check.due("bridge(0, 3, 1) ahead of the island 3", x.bridge(0, 3, 1), Check.INVALID);
        x.island(5);
        Check.due("bridge(0, 3, 1) behind the island 3", x.bridge(0, 3, 1), 0);
    }

    private static String told(int[] a) {
        return "bridge(" + a[0] + ", " + a[1] + ", " + a[2] + ")";
    }

    private static void numbers() {
        Check.sentence("at most 14 bridges, numbered from 0 .. (there can be several between the same two)");
        CoatedBridges x = Check.withIslands(1);
        for (int i = 0; i < 14; i++) {
            int wear = 1 + i % 9;
            Check.due("bridge(0, 1, " + wear + ")", x.bridge(i % 2, 1 - i % 2, wear), i);
            Check.due("count(2)", x.count(2), i + 1);
        }
        for (int i = 0; i < 14; i++) {
            dueBridge(x, i, i % 2, 1 - i % 2, 1 + i % 9);
        }
        Check.due("islandOf(1, 6)", x.islandOf(1, 6), 14);
    }

    private static void aFifteenthBridge() {
        Check.sentence("LIMIT_REACHED if there are 14");
        CoatedBridges x = Check.withBridges(13, 4);
        Check.due("bridge as the fourteenth", x.bridge(1, 0, 4), 13);
        Check.due("bridge as the fifteenth", x.bridge(1, 0, 4), Check.LIMIT);
        Check.due("count(2)", x.count(2), 14);
        Check.due("count(4)", x.count(4), 16383);
        Check.due("bridgeOf(14, 0)", x.bridgeOf(14, 0), Check.INVALID);
        Check.due("undo()", x.undo(), 3);
        Check.due("bridge as the fourteenth again", x.bridge(0, 1, 7), 13);
        Check.dueRefused("bridge(0, 1, 1) as the fifteenth", Check.LIMIT, y -> Check.addBridges(y, 14, 4),
            y -> y.bridge(0, 1, 1));
        Check.dueRefused("bridge(1, 0, 9) as the fifteenth", Check.LIMIT, y -> Check.addBridges(y, 14, 4),
            y -> y.bridge(1, 0, 9));
    }

    private static void errorsInTheirOrder() {
        Check.sentence("INVALID_ARGUMENT is returned rather than .. LIMIT_REACHED");
        int[][] wrong = {{0, 2, 4}, {2, 0, 4}, {-1, 0, 4}, {0, 0, 4}, {0, 1, 0}, {0, 1, 10}};
        for (int[] a : wrong) {
            Check.dueRefused(told(a) + " as the fifteenth", Check.INVALID, x -> Check.addBridges(x, 14, 4),
                x -> x.bridge(a[0], a[1], a[2]));
        }
    }

    private static void aNewBridge() {
        Check.sentence("Adds a bridge, open, with the coat 100.");
        CoatedBridges x = Check.after(Check::busy);
        int before = x.count(18);
        Check.due("count(3)", x.count(3), 7);
        Check.due("bridge(3, 2, 6)", x.bridge(3, 2, 6), 4);
        dueBridge(x, 4, 3, 2, 6);
        Check.due("count(3)", x.count(3), 15);
        Check.due("why(4, 0)", x.why(4, 0), 2);
        Check.due("count(18)", x.count(18), Math.min(4, before + 1));
    }

    private static void newOneIsNotTheOneThatWasUndone() {
        Check.sentence("Adds a bridge, open, with the coat 100.");
        CoatedBridges x = Check.withIslands(1);
        x.days(5);
        for (int round = 0; round < 12; round++) {
            Check.due("bridge(1, 0, 9)", x.bridge(1, 0, 9), 0);
            dueBridge(x, 0, 1, 0, 9);
            x.days(12);
            Check.due("bridgeOf(0, 4)", x.bridgeOf(0, 4), 2);
            x.send(0, 0);
            x.days(1);
            Check.due("bridgeOf(0, 7)", x.bridgeOf(0, 7), 10);
            for (int i = 3; i >= 0; i--) {
                Check.due("undo()", x.undo(), i);
            }
            Check.due("count(2)", x.count(2), 0);
        }
    }
}
