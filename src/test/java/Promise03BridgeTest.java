public final class Promise03BridgeTest {
    public static void main(String[] args) {
        CoatedBridges x = Check.withIslands(2);
        int changes = x.count(18);
        int[][] wrong = {
            {-1, 0, 1}, {0, -1, 1}, {3, 0, 1}, {0, 3, 1}, {0, 0, 1}, {1, 1, 5}, {0, 1, 0}, {0, 1, 10}, {0, 1, -1},
            {Integer.MAX_VALUE, 0, 1}, {0, Integer.MIN_VALUE, 1}, {0, 1, Integer.MAX_VALUE},
        };
        for (int[] a : wrong) {
            Check.due("bridge of " + a[0] + " " + a[1] + " " + a[2], x.bridge(a[0], a[1], a[2]), Check.INVALID);
        }
        Check.due("count(2)", x.count(2), 0);
        Check.due("count(18)", x.count(18), changes);

        Check.due("bridge(0, 1, 1)", x.bridge(0, 1, 1), 0);
        Check.due("bridge(2, 1, 9)", x.bridge(2, 1, 9), 1);
        Check.due("bridge(1, 2, 9)", x.bridge(1, 2, 9), 2);
        dueBridge(x, 0, 0, 1, 1);
        dueBridge(x, 1, 2, 1, 9);
        dueBridge(x, 2, 1, 2, 9);
        for (int i = 3; i < 14; i++) {
            Check.due("bridge(0, 2, 4)", x.bridge(0, 2, 4), i);
        }
        Check.due("bridge as the fifteenth", x.bridge(0, 2, 4), Check.LIMIT);
        Check.due("bridge with the wear 10 as the fifteenth", x.bridge(0, 2, 10), Check.INVALID);
        Check.due("bridge of one island as the fifteenth", x.bridge(2, 2, 4), Check.INVALID);
        Check.due("count(2)", x.count(2), 14);
        Check.due("count(4)", x.count(4), 16383);
        newOneIsNotTheOneThatWasUndone();
        Check.end();
    }

    private static void dueBridge(CoatedBridges x, int bridge, int one, int other, int wear) {
        int[] due = {one, other, wear, 100, 0, 0, 0, 0};
        for (int what = 0; what < due.length; what++) {
            Check.due("bridgeOf(" + bridge + ", " + what + ")", x.bridgeOf(bridge, what), due[what]);
        }
    }

    private static void newOneIsNotTheOneThatWasUndone() {
        CoatedBridges x = Check.withIslands(1);
        x.days(5);
        for (int round = 0; round < 12; round++) {
            Check.due("bridge(1, 0, 9)", x.bridge(1, 0, 9), 0);
            dueBridge(x, 0, 1, 0, 9);
            x.days(12);
            Check.due("bridgeOf(0, 4)", x.bridgeOf(0, 4), 2);
            x.send(0, 0);
            x.days(1);
            Check.due("bridgeOf(0, 7)", x.bridgeOf(0, 7), 10);
            for (int i = 3; i >= 0; i--) {
                Check.due("undo()", x.undo(), i);
            }
            Check.due("count(2)", x.count(2), 0);
        }
    }
}
