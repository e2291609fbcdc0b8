public final class Promise20CountTest {
    public static void main(String[] args) {
        CoatedBridges x = new CoatedBridges();
        x.island(20);
        x.island(9);
        x.island(3);
        x.bridge(0, 1, 9);
        x.bridge(0, 1, 5);
        x.bridge(1, 2, 1);
        x.set(0, 2);
        x.set(1, 10);
        x.pay(50);
        x.days(12);
        Check.due("send(1, 1)", x.send(1, 1), 6);
        x.set(3, 1);
        x.days(5);
        Check.write(x, "i1;");
        // 12 days: 144 coins; on 5 days 50 for paint and 32 * 5 for ferries, and 60 coins
        dueCounts(x, new int[] {
            17, 4, 3, 1, 4, 2, 1, 0, 3, 3, 1, 9, 12, 200 + 50 + 144 + 60 - 50 - 160, 50, 160, 254, 8, 4, 3,
            2, 10, 10, 1, 3, 12, 0, 40,
        });
        accountsAddUp(x);
        x.recall(1);
        accountsAddUp(x);
        dueCounts(x, new int[] {17, 4, 3, 7, 6, 0, 1, 6, 2, 2, 2});
        x.set(0, 0);
        Check.due("count(10)", x.count(10), 0);

        Check.due("count(-1)", x.count(-1), Check.INVALID);
        Check.due("count(28)", x.count(28), Check.INVALID);
        Check.due("count(MIN)", x.count(Integer.MIN_VALUE), Check.INVALID);
        Check.due("count(MAX)", x.count(Integer.MAX_VALUE), Check.INVALID);
        groupsInBothWays();
        longestWaitStays();
        Check.end();
    }

    private static void dueCounts(CoatedBridges x, int[] due) {
        for (int what = 0; what < due.length; what++) {
            Check.due("count(" + what + ")", x.count(what), due[what]);
        }
    }

    private static void accountsAddUp(CoatedBridges x) {
        Check.due("the purse", x.count(13), 200 + x.count(16) - x.count(14) - x.count(15));
        int paint = 0;
        for (int i = 0; i < x.count(2); i++) {
            paint += x.bridgeOf(i, 7);
        }
        Check.due("coins for paint", x.count(14), paint);
        int ferries = 0;
        int complaints = 0;
        for (int i = 0; i < x.count(1); i++) {
            ferries += x.islandOf(i, 2) * x.islandOf(i, 5);
            complaints += x.islandOf(i, 3);
        }
        Check.due("coins for ferries", x.count(15), ferries);
        Check.due("coins for ferries", x.count(15), 160);
        Check.due("complaints", x.count(11), complaints);
    }

    private static void groupsInBothWays() {
        CoatedBridges x = Check.withIslands(7);
        int[][] bridges = {{7, 6}, {5, 4}, {6, 5}, {3, 1}, {7, 4}, {1, 2}, {2, 5}, {0, 3}};
        int[] groups = {7, 6, 5, 4, 4, 3, 2, 1};
        for (int i = 0; i < bridges.length; i++) {
            x.bridge(bridges[i][0], bridges[i][1], 1);
            Check.due("count(8)", x.count(8), groups[i]);
            Check.due("count(9)", x.count(9), groups[i]);
        }
        x.days(50);
        x.days(50);
        Check.due("count(8) of rusted bridges", x.count(8), 8);
        Check.due("count(9) of rusted bridges", x.count(9), 8);
        Check.due("count(6)", x.count(6), 255);
    }

    private static void longestWaitStays() {
        CoatedBridges x = Check.withIslands(2);
        x.days(7);
        x.bridge(0, 1, 1);
        x.bridge(0, 2, 1);
        x.days(1);
        Check.due("islandOf(1, 1)", x.islandOf(1, 1), 0);
        Check.due("count(12)", x.count(12), 7);
        Check.due("count(11)", x.count(11), 8);
    }
}
