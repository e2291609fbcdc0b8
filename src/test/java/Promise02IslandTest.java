public final class Promise02IslandTest {
    public static void main(String[] args) {
        CoatedBridges x = new CoatedBridges();
        int[] outOfRange = {-1, 100, Integer.MIN_VALUE, Integer.MAX_VALUE};
        for (int fare : outOfRange) {
            Check.due("island(" + fare + ")", x.island(fare), Check.INVALID);
        }
        Check.due("count(1)", x.count(1), 1);
        Check.due("count(18)", x.count(18), 0);

        Check.due("island(0)", x.island(0), 1);
        Check.due("island(99)", x.island(99), 2);
        Check.due("islandOf(1, 2)", x.islandOf(1, 2), 0);
        Check.due("islandOf(2, 2)", x.islandOf(2, 2), 99);
        Check.due("islandOf(2, 0)", x.islandOf(2, 0), 0);
        for (int i = 3; i < 8; i++) {
            Check.due("island(7)", x.island(7), i);
        }
        Check.due("island(7) as the ninth", x.island(7), Check.LIMIT);
        Check.due("island(-1) as the ninth", x.island(-1), Check.INVALID);
        Check.due("island(100) as the ninth", x.island(100), Check.INVALID);
        Check.due("count(1)", x.count(1), 8);
        Check.due("count(8)", x.count(8), 8);
        newOneIsNotTheOneThatWasUndone();
        Check.end();
    }

    private static void newOneIsNotTheOneThatWasUndone() {
        CoatedBridges x = new CoatedBridges();
        int[] fresh = {0, 0, 3, 0, 0, 0, 0, Check.NOT_FOUND};
        for (int round = 0; round < 12; round++) {
            Check.due("island(3)", x.island(3), 1);
            for (int what = 0; what < fresh.length; what++) {
                Check.due("islandOf(1, " + what + ")", x.islandOf(1, what), fresh[what]);
            }
            x.days(9);
            x.set(3, 1);
            x.days(1);
            Check.due("islandOf(1, 5)", x.islandOf(1, 5), 1);
            x.undo();
            x.undo();
            Check.due("islandOf(1, 1)", x.islandOf(1, 1), 9);
            x.undo();
            x.undo();
            Check.due("count(1)", x.count(1), 1);
        }
        for (int round = 0; round < 12; round++) {
            Check.due("island(3)", x.island(3), 1);
            Check.due("islandOf(1, 1)", x.islandOf(1, 1), 0);
            int many = round % 3 + 1;
            for (int i = 1; i <= many; i++) {
                x.days(7);
                Check.due("islandOf(1, 1)", x.islandOf(1, 1), 7 * i);
            }
            for (int i = many; i >= 0; i--) {
                Check.due("undo()", x.undo(), i);
            }
        }
    }
}
