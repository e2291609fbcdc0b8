public final class Promise20CountTest {
    public static void main(String[] args) {
        whatOutOfRange();
        eachNumber();
        sets();
        groupsInBothWays();
        freeCrews();
        longestWaitStays();
        theAccounts();
        daysInTheBook();
        statesInTheHistory();
        lengthOfTheText();
        theSettings();
        Check.end();
    }

    private static void whatOutOfRange() {
        Check.sentence("INVALID_ARGUMENT if what is out of range");
        for (int what : new int[] {-1, 28, 29, Integer.MIN_VALUE, Integer.MAX_VALUE}) {
            Check.dueUnchanged("count(" + what + ")", Check.INVALID, Check::busy, x -> x.count(what));
        }
        Check.dueUnchanged("count(0)", 14, Check::busy, x -> x.count(0));
        Check.dueUnchanged("count(27)", 40, Check::busy, x -> x.count(27));
    }

    private static void eachNumber() {
        Check.sentence("what: 0 .. 27");
        CoatedBridges x = new CoatedBridges();
        x.island(20);
        x.island(9);
        x.island(3);
        x.bridge(0, 1, 9);
        x.bridge(0, 1, 5);
        x.bridge(1, 2, 1);
        x.set(0, 2);
        x.set(1, 10);
        x.pay(50);
        x.days(12);
        Check.due("send(1, 1)", x.send(1, 1), 6);
        x.set(3, 1);
        x.days(5);
        Check.write(x, "i1;");
        // 12 days: 144 coins; on 5 days 50 for paint and 32 * 5 for ferries, and 60 coins
        dueCounts(x, new int[] {
            17, 4, 3, 1, 4, 2, 1, 0, 3, 3, 1, 9, 12, 200 + 50 + 144 + 60 - 50 - 160, 50, 160, 254, 8, 4, 3,
            2, 10, 10, 1, 3, 12, 0, 40,
        });
        accountsAddUp(x);
        x.recall(1);
        accountsAddUp(x);
        dueCounts(x, new int[] {17, 4, 3, 7, 6, 0, 1, 6, 2, 2, 2});
    }

    private static void sets() {
        Check.sentence("Sets of islands and of bridges are told as bits: bit k is for the one with the number k.");
        CoatedBridges x = Check.withIslands(7);
        for (int i = 0; i < 13; i++) {
            x.bridge(0, 6, 9);
        }
        x.bridge(6, 7, 1);
        dueSets(x, 0b11000001, 0b11111111111111, 0, 0, 0b10000000000000);
        x.days(12);
        dueSets(x, 0b00000001, 0b10000000000000, 0, 0b01111111111111, 0);
        x.send(13, 0);
        dueSets(x, 0b00000001, 0, 0b10000000000000, 0b01111111111111, 0);
        x.recall(13);
        x.send(0, 0);
        dueSets(x, 0b00000001, 0b10000000000000, 0b00000000000001, 0b01111111111110, 0);
        x.days(4);
        dueSets(x, 0b11000001, 0b10000000000001, 0, 0b01111111111110, 0b10000000000001);
    }

    private static void dueSets(CoatedBridges x, int... due) {
        for (int i = 0; i < due.length; i++) {
            Check.due("count(" + (3 + i) + ")", x.count(3 + i), due[i]);
        }
    }

    private static void freeCrews() {
        Check.sentence("10: free crews, 0 if more are on bridges than there are");
        CoatedBridges x = Check.withBridges(5, 9);
        x.days(1);
        for (int crews = 0; crews <= 4; crews++) {
            x.set(0, crews);
            Check.due("count(10) of " + crews, x.count(10), crews);
        }
        for (int out = 1; out <= 4; out++) {
            x.send(out, 0);
            Check.due("count(10) with " + out + " out", x.count(10), 4 - out);
        }
        int[] free = {0, 0, 0, 0, 0};
        for (int crews = 0; crews <= 4; crews++) {
            x.set(0, crews);
            Check.due("count(10) of " + crews + " with four out", x.count(10), free[crews]);
        }
        x.recall(1);
        x.recall(2);
        for (int crews = 0; crews <= 4; crews++) {
            x.set(0, crews);
            Check.due("count(10) of " + crews + " with two out", x.count(10), Math.max(0, crews - 2));
        }
    }

    private static void theAccounts() {
        Check.sentence("13: the purse; 14: coins paid for paint so far; 15: for ferries; 16: coins that came so far");
        CoatedBridges x = Check.withBridges(2, 9);
        x.island(40);
        x.set(3, 1);
        dueAccounts(x, 200, 0, 0, 0);
        x.days(1);
        dueAccounts(x, 172, 0, 40, 12);
        x.pay(999);
        dueAccounts(x, 1171, 0, 40, 1011);
        x.send(0, 0);
        x.days(1);
        dueAccounts(x, 1133, 10, 80, 1023);
        x.set(2, 0);
        x.set(5, 0);
        x.send(1, 0);
        x.days(1);
        dueAccounts(x, 1093, 10, 120, 1023);
        x.undo();
        dueAccounts(x, 1133, 10, 80, 1023);
        Check.write(x, "p7;");
        x.play();
        dueAccounts(x, 1140, 10, 80, 1030);
    }

    private static void dueAccounts(CoatedBridges x, int... due) {
        for (int i = 0; i < due.length; i++) {
            Check.due("count(" + (13 + i) + ")", x.count(13 + i), due[i]);
        }
    }

    private static void daysInTheBook() {
        Check.sentence("17: days in the book; the book, which has the latest 8");
        CoatedBridges x = Check.withIslands(1);
        x.set(4, 0);
        for (int day = 1; day <= 10; day++) {
            x.days(1);
            Check.due("count(17)", x.count(17), Math.min(8, day));
            Check.due("count(11)", x.count(11), day);
        }
    }

    private static void statesInTheHistory() {
        Check.sentence("18: states in the history; a history of at most 4 states is kept");
        CoatedBridges x = new CoatedBridges();
        for (int i = 1; i <= 6; i++) {
            x.pay(1);
            Check.due("count(18)", x.count(18), Math.min(4, i));
        }
        for (int i = 3; i >= 0; i--) {
            x.undo();
            Check.due("count(18)", x.count(18), i);
        }
    }

    private static void lengthOfTheText() {
        Check.sentence("19: the length of the text");
        CoatedBridges x = new CoatedBridges();
        for (int i = 1; i <= 62; i++) {
            x.type('d');
            Check.due("count(19)", x.count(19), Math.min(60, i));
        }
        x.clearText();
        Check.due("count(19)", x.count(19), 0);
    }

    private static void theSettings() {
        Check.sentence("20 to 27: the settings 0 to 7");
        CoatedBridges x = new CoatedBridges();
        int[] values = {3, 31, 11, 1, 4, 13, 1, 41};
        for (int what = 0; what < 8; what++) {
            x.set(what, values[what]);
        }
        for (int what = 0; what < 8; what++) {
            Check.due("count(" + (20 + what) + ")", x.count(20 + what), values[what]);
        }
    }

    private static void dueCounts(CoatedBridges x, int[] due) {
        for (int what = 0; what < due.length; what++) {
            Check.due("count(" + what + ")", x.count(what), due[what]);
        }
    }

    private static void accountsAddUp(CoatedBridges x) {
        Check.due("the purse", x.count(13), 200 + x.count(16) - x.count(14) - x.count(15));
        int paint = 0;
        for (int i = 0; i < x.count(2); i++) {
            paint += x.bridgeOf(i, 7);
        }
        Check.due("coins for paint", x.count(14), paint);
        int ferries = 0;
        int complaints = 0;
        for (int i = 0; i < x.count(1); i++) {
            ferries += x.islandOf(i, 2) * x.islandOf(i, 5);
            complaints += x.islandOf(i, 3);
        }
        Check.due("coins for ferries", x.count(15), ferries);
        Check.due("coins for ferries", x.count(15), 160);
        Check.due("complaints", x.count(11), complaints);
    }

    private static void groupsInBothWays() {
        Check.sentence("8: groups of islands; 9: islands that are the lowest one of those to which one can go");
        CoatedBridges x = new CoatedBridges();
        for (int islands = 1; islands <= 8; islands++) {
            Check.due("count(8) without bridges", x.count(8), islands);
            Check.due("count(9) without bridges", x.count(9), islands);
            x.island(5);
        }
        int[][] bridges = {{7, 6}, {5, 4}, {6, 5}, {3, 1}, {7, 4}, {1, 2}, {2, 5}, {0, 3}};
        int[] groups = {7, 6, 5, 4, 4, 3, 2, 1};
        for (int i = 0; i < bridges.length; i++) {
            x.bridge(bridges[i][0], bridges[i][1], 1);
            Check.due("count(8)", x.count(8), groups[i]);
            Check.due("count(9)", x.count(9), groups[i]);
        }
        x.days(50);
        x.days(50);
        Check.due("count(8) of rusted bridges", x.count(8), 8);
        Check.due("count(9) of rusted bridges", x.count(9), 8);
        Check.due("count(6)", x.count(6), 255);
    }

    private static void longestWaitStays() {
        Check.sentence("12: the longest wait so far");
        CoatedBridges x = Check.withIslands(2);
        x.days(7);
        x.bridge(0, 1, 1);
        x.bridge(0, 2, 1);
        x.days(1);
        Check.due("islandOf(1, 1)", x.islandOf(1, 1), 0);
        Check.due("count(12)", x.count(12), 7);
        Check.due("count(11)", x.count(11), 8);
    }
}
