public final class Promise02IslandTest {
    private static final int[] OUT_OF_RANGE = {-1, 100, Integer.MIN_VALUE, Integer.MAX_VALUE};

    public static void main(String[] args) {
        faresAtTheEnds();
        faresOutOfRange();
        numbers();
        aNinthIsland();
        errorsInTheirOrder();
        aNewIsland();
        newOneIsNotTheOneThatWasUndone();
        Check.end();
    }

    private static void faresAtTheEnds() {
        Check.sentence("fare: 0 to 99");
        CoatedBridges x = new CoatedBridges();
        int[] fares = {0, 1, 98, 99};
        for (int i = 0; i < fares.length; i++) {
            Check.due("island(" + fares[i] + ")", x.island(fares[i]), i + 1);
            Check.due("islandOf(" + (i + 1) + ", 2)", x.islandOf(i + 1, 2), fares[i]);
        }
    }

    private static void faresOutOfRange() {
        Check.sentence("INVALID_ARGUMENT if fare is out of range");
        for (int fare : OUT_OF_RANGE) {
            Check.dueRefused("island(" + fare + ")", Check.INVALID, x -> { }, x -> x.island(fare));
            Check.dueRefused("island(" + fare + ") later", Check.INVALID, Check::busy, x -> x.island(fare));
        }
    }

    private static void numbers() {
        Check.sentence("numbered from 0 in the order in which they came");
        CoatedBridges x = new CoatedBridges();
        for (int i = 1; i <= 7; i++) {
            Check.due("island(" + 10 * i + ")", x.island(10 * i), i);
            Check.due("count(1)", x.count(1), i + 1);
        }
        for (int i = 0; i <= 7; i++) {
            Check.due("islandOf(" + i + ", 2)", x.islandOf(i, 2), 10 * i);
        }
    }

    private static void aNinthIsland() {
        Check.sentence("LIMIT_REACHED if there are 8");
        CoatedBridges x = Check.withIslands(6);
        Check.due("island(7) as the eighth", x.island(7), 7);
        Check.due("count(1)", x.count(1), 8);
        Check.due("island(7) as the ninth", x.island(7), Check.LIMIT);
        Check.due("count(1)", x.count(1), 8);
        Check.due("count(8)", x.count(8), 8);
        Check.due("islandOf(8, 0)", x.islandOf(8, 0), Check.INVALID);
        Check.due("undo()", x.undo(), 3);
        Check.due("island(9) as the eighth again", x.island(9), 7);
        Check.dueRefused("island(0) as the ninth", Check.LIMIT, y -> Check.addIslands(y, 7), y -> y.island(0));
        Check.dueRefused("island(99) as the ninth", Check.LIMIT, y -> Check.addIslands(y, 7), y -> y.island(99));
    }

    private static void errorsInTheirOrder() {
        Check.sentence("INVALID_ARGUMENT is returned rather than .. LIMIT_REACHED");
        for (int fare : OUT_OF_RANGE) {
            Check.dueRefused("island(" + fare + ") as the ninth", Check.INVALID, x -> Check.addIslands(x, 7),
                x -> x.island(fare));
        }
    }

    private static void aNewIsland() {
        Check.sentence("Each other island has a fare (0 to 99), a wait (0 at first), and complaints.");
        CoatedBridges x = Check.after(Check::busy);
        int before = x.count(18);
        Check.due("island(33)", x.island(33), 4);
        int[] due = {0, 0, 33, 0, 0, 0, 0, Check.NOT_FOUND};
        for (int what = 0; what < due.length; what++) {
            Check.due("islandOf(4, " + what + ")", x.islandOf(4, what), due[what]);
        }
        Check.due("reach(4)", x.reach(4), 16);
        Check.due("count(18)", x.count(18), Math.min(4, before + 1));
    }

    private static void newOneIsNotTheOneThatWasUndone() {
        Check.sentence("a wait (0 at first)");
        CoatedBridges x = new CoatedBridges();
        int[] fresh = {0, 0, 3, 0, 0, 0, 0, Check.NOT_FOUND};
        for (int round = 0; round < 12; round++) {
            Check.due("island(3)", x.island(3), 1);
            for (int what = 0; what < fresh.length; what++) {
                Check.due("islandOf(1, " + what + ")", x.islandOf(1, what), fresh[what]);
            }
            x.days(9);
            x.set(3, 1);
            x.days(1);
            Check.due("islandOf(1, 5)", x.islandOf(1, 5), 1);
            x.undo();
            x.undo();
            Check.due("islandOf(1, 1)", x.islandOf(1, 1), 9);
            x.undo();
            x.undo();
            Check.due("count(1)", x.count(1), 1);
        }
        for (int round = 0; round < 12; round++) {
            Check.due("island(3)", x.island(3), 1);
            Check.due("islandOf(1, 1)", x.islandOf(1, 1), 0);
            int many = round % 3 + 1;
            for (int i = 1; i <= many; i++) {
                x.days(7);
                Check.due("islandOf(1, 1)", x.islandOf(1, 1), 7 * i);
            }
            for (int i = many; i >= 0; i--) {
                Check.due("undo()", x.undo(), i);
            }
        }
    }
}
