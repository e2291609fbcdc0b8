public final class Promise10IslandOfTest {
    public static void main(String[] args) {
        wrongArguments();
        theLastOne();
        somethingOfEach();
        reachedOrNot();
        theMainland();
        longestWait();
        ferryDays();
        openBridges();
        theLongestWay();
        noWay();
        Check.end();
    }

    private static void wrongArguments() {
        Check.sentence("INVALID_ARGUMENT if an argument is out of range");
        int[][] wrong = {
            {-1, 0}, {4, 0}, {7, 0}, {8, 0}, {Integer.MAX_VALUE, 0}, {Integer.MIN_VALUE, 0},
            {0, -1}, {0, 8}, {3, 8}, {0, Integer.MAX_VALUE}, {0, Integer.MIN_VALUE},
            {Integer.MIN_VALUE, Integer.MAX_VALUE},
        };
        for (int[] a : wrong) {
            Check.dueUnchanged("islandOf(" + a[0] + ", " + a[1] + ")", Check.INVALID, Check::busy,
                x -> x.islandOf(a[0], a[1]));
        }
        Check.sentence("INVALID_ARGUMENT is returned rather than .. NOT_FOUND");
        CoatedBridges x = Check.withIslands(1);
        Check.due("islandOf(2, 7) of none", x.islandOf(2, 7), Check.INVALID);
        Check.due("islandOf(-1, 7) of none", x.islandOf(-1, 7), Check.INVALID);
        Check.due("islandOf(1, 8) of one that is alone", x.islandOf(1, 8), Check.INVALID);
        Check.due("islandOf(1, 7) of one that is alone", x.islandOf(1, 7), Check.NOT_FOUND);
    }

    private static void theLastOne() {
        Check.sentence("island: number of the island");
        CoatedBridges x = Check.withIslands(6);
        Check.due("islandOf(7, 2) ahead of it", x.islandOf(7, 2), Check.INVALID);
        x.island(17);
        dueAll(x, 7, new int[] {0, 0, 17, 0, 0, 0, 0, Check.NOT_FOUND});
        Check.due("islandOf(8, 2)", x.islandOf(8, 2), Check.INVALID);
    }

    private static void somethingOfEach() {
        Check.sentence("what: 0 .. 7");
        CoatedBridges x = new CoatedBridges();
        x.island(40);
        x.island(7);
        x.island(0);
        x.bridge(0, 1, 9);
        x.bridge(1, 2, 1);
        x.bridge(2, 1, 1);
        dueAll(x, 0, new int[] {1, 0, 0, 0, 0, 0, 1, 0});
        dueAll(x, 1, new int[] {1, 0, 40, 0, 0, 0, 3, 1});
        dueAll(x, 2, new int[] {1, 0, 7, 0, 0, 0, 2, 2});
        dueAll(x, 3, new int[] {0, 0, 0, 0, 0, 0, 0, Check.NOT_FOUND});
        x.days(16);
        dueAll(x, 0, new int[] {1, 0, 0, 0, 0, 0, 0, 0});
        dueAll(x, 1, new int[] {0, 5, 40, 2, 5, 0, 2, Check.NOT_FOUND});
        dueAll(x, 3, new int[] {0, 16, 0, 13, 16, 0, 0, Check.NOT_FOUND});
        x.set(3, 1);
        x.days(1);
        dueAll(x, 1, new int[] {0, 0, 40, 2, 5, 1, 2, Check.NOT_FOUND});
        dueAll(x, 3, new int[] {0, 0, 0, 13, 16, 1, 0, Check.NOT_FOUND});
        x.bridge(3, 0, 1);
        x.bridge(3, 2, 1);
        Check.due("islandOf(2, 7)", x.islandOf(2, 7), 2);
        Check.due("islandOf(1, 7)", x.islandOf(1, 7), 3);
        Check.due("islandOf(3, 7)", x.islandOf(3, 7), 1);
    }

    private static void reachedOrNot() {
        Check.sentence("0: 1 if it is reached, otherwise 0");
        CoatedBridges x = Check.withIslands(3);
        x.bridge(1, 0, 9);
        x.bridge(2, 3, 9);
        dueReached(x, 1, 1, 0, 0);
        x.bridge(3, 1, 1);
        dueReached(x, 1, 1, 1, 1);
        x.days(11);
        dueReached(x, 1, 1, 1, 1);
        x.days(1);
        dueReached(x, 1, 0, 0, 0);
        x.send(0, 0);
        dueReached(x, 1, 0, 0, 0);
        x.days(1);
        x.recall(0);
        dueReached(x, 1, 1, 0, 1);
    }

    private static void dueReached(CoatedBridges x, int... due) {
        for (int i = 0; i < due.length; i++) {
            Check.due("islandOf(" + i + ", 0)", x.islandOf(i, 0), due[i]);
        }
    }

    private static void theMainland() {
        Check.sentence("2: its fare (0 for the mainland)");
        CoatedBridges x = Check.withIslands(1);
        x.set(3, 1);
        x.set(4, 0);
        x.days(30);
        dueAll(x, 0, new int[] {1, 0, 0, 0, 0, 0, 0, 0});
        Check.due("islandOf(1, 5)", x.islandOf(1, 5), 30);
    }

    private static void longestWait() {
        Check.sentence("4: its longest wait so far");
        CoatedBridges x = Check.withIslands(1);
        x.days(5);
        dueWaits(x, 5, 5);
        x.set(3, 1);
        x.days(1);
        dueWaits(x, 0, 5);
        x.set(3, 0);
        x.days(5);
        dueWaits(x, 5, 5);
        x.days(1);
        dueWaits(x, 6, 6);
        x.bridge(0, 1, 1);
        dueWaits(x, 6, 6);
        x.days(1);
        dueWaits(x, 0, 6);
    }

    private static void dueWaits(CoatedBridges x, int now, int longest) {
        Check.due("islandOf(1, 1)", x.islandOf(1, 1), now);
        Check.due("islandOf(1, 4)", x.islandOf(1, 4), longest);
        Check.due("count(12)", x.count(12), longest);
    }

    private static void ferryDays() {
        Check.sentence("5: days on which a ferry was paid for it so far");
        CoatedBridges x = new CoatedBridges();
        x.island(0);
        x.island(99);
        x.set(5, 0);
        x.days(1);
        Check.due("islandOf(1, 5) without ferries", x.islandOf(1, 5), 0);
        x.set(3, 1);
        x.days(4);
        Check.due("islandOf(1, 5) of the fare 0", x.islandOf(1, 5), 4);
        Check.due("islandOf(2, 5) for 200 coins", x.islandOf(2, 5), 2);
        x.bridge(0, 1, 1);
        x.days(1);
        Check.due("islandOf(1, 5) of one that is reached", x.islandOf(1, 5), 4);
    }

    private static void openBridges() {
        Check.sentence("6: open bridges there");
        CoatedBridges x = Check.withBridges(13, 9);
        Check.due("islandOf(1, 6)", x.islandOf(1, 6), 13);
        x.island(5);
        x.bridge(2, 1, 1);
        dueOpen(x, 13, 14, 1);
        x.set(0, 2);
        x.days(1);
        x.send(0, 0);
        dueOpen(x, 12, 13, 1);
        x.send(13, 1);
        dueOpen(x, 12, 12, 0);
        x.recall(0);
        x.days(11);
        dueOpen(x, 0, 1, 1);
    }

    private static void dueOpen(CoatedBridges x, int... due) {
        for (int i = 0; i < due.length; i++) {
            Check.due("islandOf(" + i + ", 6)", x.islandOf(i, 6), due[i]);
        }
    }

    private static void noWay() {
        Check.sentence("NOT_FOUND for 7 if it is alone");
        CoatedBridges x = Check.withIslands(2);
        x.bridge(1, 2, 1);
        Check.due("islandOf(1, 7)", x.islandOf(1, 7), Check.NOT_FOUND);
        Check.due("islandOf(2, 7)", x.islandOf(2, 7), Check.NOT_FOUND);
        x.bridge(0, 2, 9);
        Check.due("islandOf(1, 7)", x.islandOf(1, 7), 2);
        Check.due("islandOf(2, 7)", x.islandOf(2, 7), 1);
        x.days(1);
        x.send(1, 1);
        Check.due("islandOf(1, 7)", x.islandOf(1, 7), Check.NOT_FOUND);
        Check.due("islandOf(0, 7)", x.islandOf(0, 7), 0);
        Check.dueUnchanged("islandOf(3, 7)", Check.NOT_FOUND, Check::busy, y -> y.islandOf(3, 7));
    }

    private static void theLongestWay() {
        Check.sentence("7: the fewest bridges over which one comes there from the mainland");
        CoatedBridges x = Check.withIslands(7);
        for (int i = 7; i > 0; i--) {
            x.bridge(i, i - 1, 1);
        }
        for (int i = 0; i < 8; i++) {
            Check.due("islandOf(" + i + ", 7)", x.islandOf(i, 7), i);
        }
        x.bridge(0, 4, 1);
        int[] due = {0, 1, 2, 2, 1, 2, 3, 4};
        for (int i = 0; i < 8; i++) {
            Check.due("islandOf(" + i + ", 7) with a shorter way", x.islandOf(i, 7), due[i]);
        }
    }

    private static void dueAll(CoatedBridges x, int island, int[] due) {
        for (int what = 0; what < due.length; what++) {
            Check.due("islandOf(" + island + ", " + what + ")", x.islandOf(island, what), due[what]);
        }
    }
}
