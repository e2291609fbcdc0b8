public final class Promise09BridgeOfTest {
    public static void main(String[] args) {
        CoatedBridges x = Check.withIslands(2);
        Check.due("bridgeOf(0, 0) without bridges", x.bridgeOf(0, 0), Check.INVALID);
        x.bridge(1, 0, 7);
        x.bridge(2, 1, 5);
        dueAll(x, 0, new int[] {1, 0, 7, 100, 0, 0, 0, 0, 1});
        dueAll(x, 1, new int[] {2, 1, 5, 100, 0, 0, 0, 0, 1});
        x.bridge(0, 2, 9);
        Check.due("bridgeOf(0, 8) with another way", x.bridgeOf(0, 8), 0);
        x.days(3);
        x.send(1, 0);
        Check.due("bridgeOf(0, 8) when the other way is painted", x.bridgeOf(0, 8), 1);
        Check.due("bridgeOf(1, 8) of a painted one", x.bridgeOf(1, 8), 0);
        x.set(1, 5);
        x.days(2);
        dueAll(x, 1, new int[] {2, 1, 5, 95, 1, 1, 2, 20, 0});
        x.days(1);
        dueAll(x, 1, new int[] {2, 1, 5, 100, 0, 1, 2, 30, 0});
        x.days(6);
        dueAll(x, 2, new int[] {0, 2, 9, 0, 2, 0, 1, 0, 0});
        dueAll(x, 0, new int[] {1, 0, 7, 16, 0, 0, 0, 0, 1});

        Check.due("bridgeOf(0, -1)", x.bridgeOf(0, -1), Check.INVALID);
        Check.due("bridgeOf(0, 9)", x.bridgeOf(0, 9), Check.INVALID);
        Check.due("bridgeOf(-1, 0)", x.bridgeOf(-1, 0), Check.INVALID);
        Check.due("bridgeOf(3, 0)", x.bridgeOf(3, 0), Check.INVALID);
        Check.due("bridgeOf(MAX, MIN)", x.bridgeOf(Integer.MAX_VALUE, Integer.MIN_VALUE), Check.INVALID);
        betweenIslandsThatAreAlone();
        Check.end();
    }

    private static void betweenIslandsThatAreAlone() {
        CoatedBridges x = Check.withIslands(2);
        x.bridge(1, 2, 1);
        Check.due("bridgeOf(0, 8) between islands that are alone", x.bridgeOf(0, 8), 0);
        x.bridge(0, 1, 1);
        Check.due("bridgeOf(0, 8)", x.bridgeOf(0, 8), 1);
    }

    private static void dueAll(CoatedBridges x, int bridge, int[] due) {
        for (int what = 0; what < due.length; what++) {
            Check.due("bridgeOf(" + bridge + ", " + what + ")", x.bridgeOf(bridge, what), due[what]);
        }
    }
}
