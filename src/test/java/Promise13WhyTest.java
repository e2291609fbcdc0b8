public final class Promise13WhyTest {
    public static void main(String[] args) {
        wrongArguments();
        eachReason();
        reasonsInTheirOrder();
        coatsAtTheEnd();
        theLowestIsland();
        aRustedOne();
        noOtherReasonNamesAnIsland();
        asSendDoes();
        Check.end();
    }

    private static void wrongArguments() {
        Check.sentence("INVALID_ARGUMENT if an argument is out of range");
        int[][] wrong = {
            {-1, 0}, {4, 0}, {4, 1}, {13, 0}, {14, 1}, {Integer.MAX_VALUE, 1}, {Integer.MIN_VALUE, 0},
            {0, -1}, {0, 2}, {3, 2}, {0, Integer.MAX_VALUE}, {0, Integer.MIN_VALUE}, {4, 2},
        };
        for (int[] a : wrong) {
            Check.dueUnchanged("why(" + a[0] + ", " + a[1] + ")", Check.INVALID, Check::busy,
                x -> x.why(a[0], a[1]));
        }
        CoatedBridges x = Check.withBridges(14, 1);
        Check.due("why(13, 0)", x.why(13, 0), 2);
        Check.due("why(14, 0)", x.why(14, 0), Check.INVALID);
    }

    private static void eachReason() {
        Check.sentence("0: the reason, 0 if it can be sent");
        CoatedBridges x = Check.withBridges(2, 2);
        dueWhy(x, 0, 2, Check.NOT_FOUND);
        x.days(1);
        dueWhy(x, 0, 0, Check.NOT_FOUND);
        dueWhy(x, 1, 0, Check.NOT_FOUND);
        x.send(0, 0);
        dueWhy(x, 0, 1, Check.NOT_FOUND);
        dueWhy(x, 1, 3, Check.NOT_FOUND);
        x.set(0, 2);
        dueWhy(x, 0, 1, Check.NOT_FOUND);
        dueWhy(x, 1, 4, 1);
        x.recall(0);
        dueWhy(x, 1, 0, Check.NOT_FOUND);
    }

    private static void reasonsInTheirOrder() {
        Check.sentence("for the first of these reasons: 1 .. 2 .. 3 .. 4");
        CoatedBridges x = Check.withBridges(1, 1);
        x.set(0, 0);
        dueWhy(x, 0, 2, Check.NOT_FOUND);
        x.days(1);
        dueWhy(x, 0, 3, Check.NOT_FOUND);
        x.set(0, 1);
        dueWhy(x, 0, 4, 1);
        x.send(0, 1);
        dueWhy(x, 0, 1, Check.NOT_FOUND);
        x.set(0, 0);
        dueWhy(x, 0, 1, Check.NOT_FOUND);
        x.recall(0);
        dueWhy(x, 0, 3, Check.NOT_FOUND);
    }

    private static void coatsAtTheEnd() {
        Check.sentence("2 its coat is 100");
        CoatedBridges x = Check.withBridges(2, 1);
        x.bridge(0, 1, 9);
        dueWhy(x, 2, 2, Check.NOT_FOUND);
        x.days(1);
        Check.due("bridgeOf(0, 3)", x.bridgeOf(0, 3), 99);
        dueWhy(x, 0, 0, Check.NOT_FOUND);
        dueWhy(x, 2, 0, Check.NOT_FOUND);
        x.send(0, 0);
        x.days(1);
        Check.due("bridgeOf(0, 3)", x.bridgeOf(0, 3), 100);
        dueWhy(x, 0, 2, Check.NOT_FOUND);
    }

    private static void theLowestIsland() {
        Check.sentence("1: with the reason 4 the lowest island that would be alone");
        CoatedBridges x = Check.withIslands(4);
        x.bridge(0, 4, 2);
        x.bridge(4, 3, 2);
        x.bridge(3, 2, 2);
        x.bridge(1, 0, 2);
        x.bridge(0, 1, 2);
        dueWhy(x, 0, 2, Check.NOT_FOUND);
        x.days(1);
        dueWhy(x, 0, 4, 2);
        dueWhy(x, 1, 4, 2);
        dueWhy(x, 2, 4, 2);
        x.bridge(2, 1, 2);
        dueWhy(x, 0, 0, Check.NOT_FOUND);
        dueWhy(x, 5, 2, Check.NOT_FOUND);
        Check.due("send(0, 0)", x.send(0, 0), 0);
        dueWhy(x, 1, 3, Check.NOT_FOUND);
        dueWhy(x, 5, 2, Check.NOT_FOUND);
        x.set(0, 4);
        dueWhy(x, 1, 4, 4);
        dueWhy(x, 2, 4, 3);
        dueWhy(x, 3, 0, Check.NOT_FOUND);
        x.set(1, 1);
        x.days(1);
        dueWhy(x, 5, 4, 2);

        CoatedBridges y = Check.withIslands(7);
        y.bridge(0, 7, 1);
        y.bridge(7, 1, 1);
        y.days(1);
        dueWhy(y, 0, 4, 1);
        dueWhy(y, 1, 4, 1);
        CoatedBridges z = Check.withIslands(7);
        z.bridge(0, 7, 1);
        z.days(1);
        dueWhy(z, 0, 4, 7);
    }

    private static void aRustedOne() {
        Check.sentence("4 some island that is reached now would be alone then");
        CoatedBridges x = Check.withBridges(1, 9);
        x.days(11);
        dueWhy(x, 0, 4, 1);
        x.days(1);
        dueWhy(x, 0, 0, Check.NOT_FOUND);
        CoatedBridges y = Check.withIslands(2);
        y.bridge(1, 2, 1);
        y.days(1);
        dueWhy(y, 0, 0, Check.NOT_FOUND);
    }

    private static void noOtherReasonNamesAnIsland() {
        Check.sentence("NOT_FOUND for 1 with another reason");
        Check.dueUnchanged("why(0, 1) of a rusted one without a crew", Check.NOT_FOUND, Check::busy, x -> x.why(0, 1));
        Check.dueUnchanged("why(1, 1) of a painted one", Check.NOT_FOUND, Check::busy, x -> x.why(1, 1));
        Check.dueUnchanged("why(2, 1) without a crew", Check.NOT_FOUND, Check::busy, x -> x.why(2, 1));
    }

    private static void asSendDoes() {
        Check.sentence("Tells why a crew is not sent to a bridge now.");
        for (int bridge = 0; bridge <= 3; bridge++) {
            for (int crews = 0; crews <= 2; crews++) {
                CoatedBridges x = Check.after(Check::busy);
                x.set(0, crews);
                int reason = x.why(bridge, 0);
                boolean sent = x.send(bridge, 0) >= 0;
                Check.due("send(" + bridge + ", 0) for the reason " + reason, sent ? 1 : 0, reason == 0 ? 1 : 0);
            }
        }
    }

    private static void dueWhy(CoatedBridges x, int bridge, int reason, int island) {
        Check.due("why(" + bridge + ", 0)", x.why(bridge, 0), reason);
        Check.due("why(" + bridge + ", 1)", x.why(bridge, 1), island);
    }
}
