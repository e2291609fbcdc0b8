public final class Promise05RecallTest {
    public static void main(String[] args) {
        CoatedBridges x = Check.withBridges(1, 9);
        Check.due("recall(-1)", x.recall(-1), Check.INVALID);
        Check.due("recall(1)", x.recall(1), Check.INVALID);
        Check.due("recall(MIN)", x.recall(Integer.MIN_VALUE), Check.INVALID);
        Check.due("recall(0) of an open one", x.recall(0), Check.NOT_POSSIBLE);

        x.days(2);
        x.send(0, 1);
        int changes = x.count(18);
        Check.due("recall(0)", x.recall(0), 82);
        Check.due("count(18)", x.count(18), Math.min(4, changes + 1));
        Check.due("bridgeOf(0, 4)", x.bridgeOf(0, 4), 0);
        Check.due("bridgeOf(0, 5)", x.bridgeOf(0, 5), 1);
        Check.due("count(10)", x.count(10), 1);
        Check.due("islandOf(1, 0)", x.islandOf(1, 0), 1);
        Check.due("recall(0) again", x.recall(0), Check.NOT_POSSIBLE);
        x.days(1);
        Check.due("bridgeOf(0, 3)", x.bridgeOf(0, 3), 73);

        x.days(9);
        Check.due("recall(0) of a rusted one", x.recall(0), Check.NOT_POSSIBLE);
        x.send(0, 0);
        Check.due("recall(0) with the coat 0", x.recall(0), 0);
        Check.due("bridgeOf(0, 4)", x.bridgeOf(0, 4), 2);
        x.send(0, 0);
        x.days(1);
        Check.due("recall(0) with some coat", x.recall(0), 30);
        Check.due("bridgeOf(0, 4)", x.bridgeOf(0, 4), 0);
        Check.end();
    }
}
