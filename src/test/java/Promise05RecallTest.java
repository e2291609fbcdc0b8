public final class Promise05RecallTest {
    public static void main(String[] args) {
        wrongArguments();
        notPainted();
        openThen();
        rustedThen();
        theCrewIsFree();
        Check.end();
    }

    private static void painted(CoatedBridges x) {
        Check.addBridges(x, 2, 9);
        x.days(2);
        x.send(0, 0);
    }

    private static void wrongArguments() {
        Check.sentence("bridge: number of the bridge; INVALID_ARGUMENT");
        for (int bridge : new int[] {-1, 2, 13, 14, Integer.MIN_VALUE, Integer.MAX_VALUE}) {
            Check.dueRefused("recall(" + bridge + ")", Check.INVALID, Promise05RecallTest::painted,
                x -> x.recall(bridge));
        }
        CoatedBridges x = Check.withBridges(14, 9);
        x.days(1);
        x.send(13, 0);
        Check.due("recall(13)", x.recall(13), 91);
    }

    private static void notPainted() {
        Check.sentence("NOT_POSSIBLE if it is not painted");
        Check.dueRefused("recall(1) of an open one", Check.NOT_POSSIBLE, Promise05RecallTest::painted,
            x -> x.recall(1));
        Check.dueRefused("recall(0) of a full one", Check.NOT_POSSIBLE, x -> Check.addBridges(x, 1, 9),
            x -> x.recall(0));
        Check.Way rusted = x -> {
            Check.addBridges(x, 1, 9);
            x.days(12);
        };
        Check.dueRefused("recall(0) of a rusted one", Check.NOT_POSSIBLE, rusted, x -> x.recall(0));
        Check.Way calledBack = x -> {
            painted(x);
            x.recall(0);
        };
        Check.dueRefused("recall(0) again", Check.NOT_POSSIBLE, calledBack, x -> x.recall(0));
        Check.Way left = x -> {
            painted(x);
            x.days(1);
        };
        Check.dueRefused("recall(0) of one that its crew left", Check.NOT_POSSIBLE, left, x -> x.recall(0));
    }

    private static void openThen() {
        Check.sentence("Calls the crew of a bridge back; it is open then; returns its coat");
        CoatedBridges x = Check.withBridges(1, 9);
        x.days(2);
        Check.due("send(0, 1)", x.send(0, 1), 2);
        int changes = x.count(18);
        Check.due("recall(0)", x.recall(0), 82);
        Check.due("count(18)", x.count(18), Math.min(4, changes + 1));
        Check.due("bridgeOf(0, 4)", x.bridgeOf(0, 4), 0);
        Check.due("bridgeOf(0, 5)", x.bridgeOf(0, 5), 1);
        Check.due("islandOf(1, 0)", x.islandOf(1, 0), 1);
        x.days(1);
        Check.due("bridgeOf(0, 3)", x.bridgeOf(0, 3), 73);
    }

    private static void rustedThen() {
        Check.sentence("it is open then, or rusted, if its coat is 0");
        CoatedBridges x = Check.withBridges(1, 9);
        x.set(1, 1);
        x.days(12);
        x.send(0, 0);
        Check.due("bridgeOf(0, 4) of a painted one with the coat 0", x.bridgeOf(0, 4), 1);
        Check.due("recall(0) with the coat 0", x.recall(0), 0);
        Check.due("bridgeOf(0, 4)", x.bridgeOf(0, 4), 2);
        Check.due("count(3)", x.count(3), 1);
        x.send(0, 0);
        x.days(1);
        Check.due("recall(0) with the coat 1", x.recall(0), 1);
        Check.due("bridgeOf(0, 4)", x.bridgeOf(0, 4), 0);
        Check.due("count(3)", x.count(3), 3);
        x.days(1);
        Check.due("bridgeOf(0, 4)", x.bridgeOf(0, 4), 2);
        x.send(0, 0);
        x.set(1, 99);
        x.days(1);
        Check.due("recall(0) with the coat 99", x.recall(0), 99);
        Check.due("bridgeOf(0, 4)", x.bridgeOf(0, 4), 0);
    }

    private static void theCrewIsFree() {
        Check.sentence("each painted bridge has one");
        CoatedBridges x = Check.after(Promise05RecallTest::painted);
        Check.due("count(10)", x.count(10), 0);
        x.recall(0);
        Check.due("count(10)", x.count(10), 1);
        Check.due("send(1, 0)", x.send(1, 0), 0);
    }
}
