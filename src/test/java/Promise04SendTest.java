public final class Promise04SendTest {
    public static void main(String[] args) {
        reasonsInTheirOrder();
        setOfTheLost();
        rustedLosesNone();
        wrongArguments();
        fewerCrewsThanAreOut();
        Check.end();
    }

    private static void reasonsInTheirOrder() {
        CoatedBridges x = Check.withBridges(2, 2);
        x.bridge(0, 1, 2);
        Check.due("send(0, 0) with the coat 100", x.send(0, 0), Check.NOT_POSSIBLE);
        Check.due("send(0, 1) with the coat 100", x.send(0, 1), Check.NOT_POSSIBLE);
        x.days(1);
        int changes = x.count(18);
        Check.due("send(0, 0)", x.send(0, 0), 0);
        Check.due("count(18)", x.count(18), Math.min(4, changes + 1));
        Check.due("bridgeOf(0, 4)", x.bridgeOf(0, 4), 1);
        Check.due("bridgeOf(0, 5)", x.bridgeOf(0, 5), 1);
        Check.due("send(0, 0) to a painted one", x.send(0, 0), Check.NOT_POSSIBLE);
        Check.due("send(0, 1) to a painted one", x.send(0, 1), Check.NOT_POSSIBLE);
        Check.due("send(1, 0) without a free crew", x.send(1, 0), Check.NOT_POSSIBLE);
        Check.due("send(1, 1) without a free crew", x.send(1, 1), Check.NOT_POSSIBLE);
        Check.due("bridgeOf(1, 5)", x.bridgeOf(1, 5), 0);
        x.set(0, 3);
        Check.due("send(1, 0)", x.send(1, 0), 0);
        Check.due("send(2, 0) that leaves the island alone", x.send(2, 0), Check.NOT_POSSIBLE);
        Check.due("bridgeOf(2, 4)", x.bridgeOf(2, 4), 0);
        Check.due("send(2, 1)", x.send(2, 1), 2);
        Check.due("count(3)", x.count(3), 1);
        Check.due("count(5)", x.count(5), 7);
    }

    private static void setOfTheLost() {
        CoatedBridges x = Check.withIslands(4);
        x.bridge(0, 1, 1);
        x.bridge(1, 2, 1);
        x.bridge(2, 3, 1);
        x.bridge(4, 3, 1);
        x.set(0, 4);
        x.days(1);
        Check.due("send(2, 1)", x.send(2, 1), 24);
        Check.due("send(3, 0) between islands that are alone", x.send(3, 0), 0);
        Check.due("send(0, 0)", x.send(0, 0), Check.NOT_POSSIBLE);
        Check.due("send(0, 1)", x.send(0, 1), 6);
    }

    private static void rustedLosesNone() {
        CoatedBridges x = Check.withBridges(1, 9);
        x.days(12);
        Check.due("bridgeOf(0, 4)", x.bridgeOf(0, 4), 2);
        Check.due("send(0, 0) to a rusted one", x.send(0, 0), 0);
        Check.due("bridgeOf(0, 4)", x.bridgeOf(0, 4), 1);
    }

    private static void wrongArguments() {
        CoatedBridges x = Check.withBridges(1, 9);
        x.days(1);
        Check.due("send(-1, 0)", x.send(-1, 0), Check.INVALID);
        Check.due("send(1, 0)", x.send(1, 0), Check.INVALID);
        Check.due("send(14, 1)", x.send(14, 1), Check.INVALID);
        Check.due("send(MAX, 1)", x.send(Integer.MAX_VALUE, 1), Check.INVALID);
        Check.due("send(0, 2)", x.send(0, 2), Check.INVALID);
        Check.due("send(0, -1)", x.send(0, -1), Check.INVALID);
        x.set(0, 0);
        Check.due("send(0, 2) without crews", x.send(0, 2), Check.INVALID);
        Check.due("send(0, 0) without crews", x.send(0, 0), Check.NOT_POSSIBLE);
    }

    private static void fewerCrewsThanAreOut() {
        CoatedBridges x = Check.withBridges(3, 9);
        x.days(10);
        x.set(0, 2);
        x.send(0, 0);
        x.send(1, 0);
        x.set(0, 1);
        Check.due("count(10)", x.count(10), 0);
        Check.due("send(2, 1)", x.send(2, 1), Check.NOT_POSSIBLE);
        Check.due("count(5)", x.count(5), 3);
        x.recall(0);
        Check.due("count(10)", x.count(10), 0);
        x.recall(1);
        Check.due("count(10)", x.count(10), 1);
        Check.due("send(2, 1)", x.send(2, 1), 0);
    }
}
