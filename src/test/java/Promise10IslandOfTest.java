public final class Promise10IslandOfTest {
    public static void main(String[] args) {
        CoatedBridges x = new CoatedBridges();
        x.island(40);
        x.island(7);
        x.island(0);
        x.bridge(0, 1, 9);
        x.bridge(1, 2, 1);
        x.bridge(2, 1, 1);
        dueAll(x, 0, new int[] {1, 0, 0, 0, 0, 0, 1, 0});
        dueAll(x, 1, new int[] {1, 0, 40, 0, 0, 0, 3, 1});
        dueAll(x, 2, new int[] {1, 0, 7, 0, 0, 0, 2, 2});
        dueAll(x, 3, new int[] {0, 0, 0, 0, 0, 0, 0, Check.NOT_FOUND});
        x.days(16);
        dueAll(x, 0, new int[] {1, 0, 0, 0, 0, 0, 0, 0});
        dueAll(x, 1, new int[] {0, 5, 40, 2, 5, 0, 2, Check.NOT_FOUND});
        dueAll(x, 3, new int[] {0, 16, 0, 13, 16, 0, 0, Check.NOT_FOUND});
        x.set(3, 1);
        x.days(1);
        dueAll(x, 1, new int[] {0, 0, 40, 2, 5, 1, 2, Check.NOT_FOUND});
        dueAll(x, 3, new int[] {0, 0, 0, 13, 16, 1, 0, Check.NOT_FOUND});
        x.bridge(3, 0, 1);
        x.bridge(3, 2, 1);
        Check.due("islandOf(2, 7)", x.islandOf(2, 7), 2);
        Check.due("islandOf(1, 7)", x.islandOf(1, 7), 3);
        Check.due("islandOf(3, 7)", x.islandOf(3, 7), 1);

        Check.due("islandOf(0, -1)", x.islandOf(0, -1), Check.INVALID);
        Check.due("islandOf(0, 8)", x.islandOf(0, 8), Check.INVALID);
        Check.due("islandOf(-1, 0)", x.islandOf(-1, 0), Check.INVALID);
        Check.due("islandOf(4, 7)", x.islandOf(4, 7), Check.INVALID);
        Check.due("islandOf(MIN, MAX)", x.islandOf(Integer.MIN_VALUE, Integer.MAX_VALUE), Check.INVALID);
        theLongestWay();
        Check.end();
    }

    private static void theLongestWay() {
        CoatedBridges x = Check.withIslands(7);
        for (int i = 7; i > 0; i--) {
            x.bridge(i, i - 1, 1);
        }
        for (int i = 0; i < 8; i++) {
            Check.due("islandOf(" + i + ", 7)", x.islandOf(i, 7), i);
        }
        x.bridge(0, 4, 1);
        int[] due = {0, 1, 2, 2, 1, 2, 3, 4};
        for (int i = 0; i < 8; i++) {
            Check.due("islandOf(" + i + ", 7) with a shorter way", x.islandOf(i, 7), due[i]);
        }
    }

    private static void dueAll(CoatedBridges x, int island, int[] due) {
        for (int what = 0; what < due.length; what++) {
            Check.due("islandOf(" + island + ", " + what + ")", x.islandOf(island, what), due[what]);
        }
    }
}
