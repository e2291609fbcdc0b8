public final class Promise11ReachTest {
    public static void main(String[] args) {
        CoatedBridges x = Check.withIslands(7);
        x.bridge(7, 3, 1);
        x.bridge(3, 5, 1);
        x.bridge(1, 0, 9);
        int[] due = {3, 3, 4, 168, 16, 168, 64, 168};
        for (int i = 0; i < 8; i++) {
            Check.due("reach(" + i + ")", x.reach(i), due[i]);
        }
        x.days(12);
        Check.due("reach(0) when its bridge is rusted", x.reach(0), 1);
        Check.due("reach(1) when its bridge is rusted", x.reach(1), 2);
        x.send(0, 0);
        Check.due("reach(7) when its bridge is painted", x.reach(7), 128);
        Check.due("reach(3) when its bridge is painted", x.reach(3), 40);
        Check.due("reach(-1)", x.reach(-1), Check.INVALID);
        Check.due("reach(8)", x.reach(8), Check.INVALID);
        Check.due("reach(32)", x.reach(32), Check.INVALID);
        Check.due("reach(1) of a new object", new CoatedBridges().reach(1), Check.INVALID);
        Check.end();
    }
}
