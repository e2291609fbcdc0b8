public final class Promise11ReachTest {
    public static void main(String[] args) {
        wrongArguments();
        itselfToo();
        overOpenBridges();
        overAllOfThem();
        Check.end();
    }

    private static void wrongArguments() {
        Check.sentence("island: number of the island; INVALID_ARGUMENT");
        for (int island : new int[] {-1, 4, 7, 8, 31, 32, 33, Integer.MIN_VALUE, Integer.MAX_VALUE}) {
            Check.dueUnchanged("reach(" + island + ")", Check.INVALID, Check::busy, x -> x.reach(island));
        }
        Check.due("reach(1) of a new object", new CoatedBridges().reach(1), Check.INVALID);
        Check.due("reach(0) of a new object", new CoatedBridges().reach(0), 1);
        Check.due("reach(8) of eight", Check.withIslands(7).reach(8), Check.INVALID);
    }

    private static void itselfToo() {
        Check.sentence("Returns the islands to which one can go .., itself too");
        CoatedBridges x = Check.withIslands(7);
        for (int i = 0; i < 8; i++) {
            Check.due("reach(" + i + ") without bridges", x.reach(i), 1 << i);
        }
    }

    private static void overOpenBridges() {
        Check.sentence("Returns the islands to which one can go from an island over open bridges");
        CoatedBridges x = Check.withIslands(7);
        x.bridge(7, 3, 1);
        x.bridge(3, 5, 1);
        x.bridge(1, 0, 9);
        int[] due = {3, 3, 4, 168, 16, 168, 64, 168};
        for (int i = 0; i < 8; i++) {
            Check.due("reach(" + i + ")", x.reach(i), due[i]);
        }
        x.days(11);
        Check.due("reach(0) a day ahead of the rust", x.reach(0), 3);
        x.days(1);
        Check.due("reach(0) when its bridge is rusted", x.reach(0), 1);
        Check.due("reach(1) when its bridge is rusted", x.reach(1), 2);
        x.send(0, 0);
        Check.due("reach(7) when its bridge is painted", x.reach(7), 128);
        Check.due("reach(3) when its bridge is painted", x.reach(3), 40);
    }

    private static void overAllOfThem() {
        Check.sentence("Returns the islands to which one can go from an island over open bridges");
        CoatedBridges x = Check.withIslands(7);
        for (int i = 0; i < 7; i++) {
            x.bridge(7 - i, 6 - i, 1);
        }
        for (int i = 0; i < 8; i++) {
            Check.due("reach(" + i + ") over seven bridges", x.reach(i), 255);
        }
        x.days(1);
        x.send(3, 1);
        for (int i = 0; i < 8; i++) {
            Check.due("reach(" + i + ") without the one in the middle", x.reach(i), i < 4 ? 15 : 240);
        }
    }
}
