public final class Promise09BridgeOfTest {
    public static void main(String[] args) {
        wrongArguments();
        theLastOne();
        somethingOfEach();
        conditions();
        howOften();
        closedDays();
        coinsForPaint();
        needed();
        Check.end();
    }

    private static void wrongArguments() {
        Check.sentence("INVALID_ARGUMENT if an argument is out of range");
        int[][] wrong = {
            {-1, 0}, {4, 0}, {13, 0}, {14, 0}, {Integer.MAX_VALUE, 0}, {Integer.MIN_VALUE, 0}, {4, 8}, {-1, 9},
            {0, -1}, {0, 9}, {3, 9}, {0, Integer.MAX_VALUE}, {0, Integer.MIN_VALUE},
            {Integer.MAX_VALUE, Integer.MIN_VALUE},
        };
        for (int[] a : wrong) {
            Check.dueUnchanged("bridgeOf(" + a[0] + ", " + a[1] + ")", Check.INVALID, Check::busy,
                x -> x.bridgeOf(a[0], a[1]));
        }
        CoatedBridges x = Check.withIslands(1);
        Check.due("bridgeOf(0, 0) without bridges", x.bridgeOf(0, 0), Check.INVALID);
        x.bridge(0, 1, 1);
        Check.due("bridgeOf(0, 0)", x.bridgeOf(0, 0), 0);
        x.undo();
        Check.due("bridgeOf(0, 0) of one that was undone", x.bridgeOf(0, 0), Check.INVALID);
    }

    private static void theLastOne() {
        Check.sentence("bridge: number of the bridge");
        CoatedBridges x = Check.withBridges(13, 2);
        Check.due("bridgeOf(13, 0) ahead of it", x.bridgeOf(13, 0), Check.INVALID);
        x.bridge(1, 0, 7);
        dueAll(x, 13, new int[] {1, 0, 7, 100, 0, 0, 0, 0, 0});
        dueAll(x, 12, new int[] {0, 1, 2, 100, 0, 0, 0, 0, 0});
        Check.due("bridgeOf(14, 0)", x.bridgeOf(14, 0), Check.INVALID);
    }

    private static void somethingOfEach() {
        Check.sentence("what: 0 .. 8");
        CoatedBridges x = Check.withIslands(2);
        x.bridge(1, 0, 7);
        x.bridge(2, 1, 5);
        dueAll(x, 0, new int[] {1, 0, 7, 100, 0, 0, 0, 0, 1});
        dueAll(x, 1, new int[] {2, 1, 5, 100, 0, 0, 0, 0, 1});
        x.bridge(0, 2, 9);
        Check.due("bridgeOf(0, 8) with another way", x.bridgeOf(0, 8), 0);
        x.days(3);
        x.send(1, 0);
        Check.due("bridgeOf(0, 8) when the other way is painted", x.bridgeOf(0, 8), 1);
        Check.due("bridgeOf(1, 8) of a painted one", x.bridgeOf(1, 8), 0);
        x.set(1, 5);
        x.days(2);
        dueAll(x, 1, new int[] {2, 1, 5, 95, 1, 1, 2, 20, 0});
        x.days(1);
        dueAll(x, 1, new int[] {2, 1, 5, 100, 0, 1, 2, 30, 0});
        x.days(6);
        dueAll(x, 2, new int[] {0, 2, 9, 0, 2, 0, 1, 0, 0});
        dueAll(x, 0, new int[] {1, 0, 7, 16, 0, 0, 0, 0, 1});
    }

    private static void conditions() {
        Check.sentence("4: 0 if it is open, 1 painted, 2 rusted");
        CoatedBridges x = Check.withBridges(1, 9);
        x.days(11);
        dueCoat(x, 1, 0);
        x.send(0, 1);
        dueCoat(x, 1, 1);
        x.recall(0);
        dueCoat(x, 1, 0);
        x.days(1);
        dueCoat(x, 0, 2);
        x.send(0, 0);
        dueCoat(x, 0, 1);
        x.recall(0);
        dueCoat(x, 0, 2);
        x.send(0, 0);
        x.days(3);
        dueCoat(x, 90, 1);
        x.days(1);
        dueCoat(x, 100, 0);
    }

    private static void dueCoat(CoatedBridges x, int coat, int condition) {
        Check.due("bridgeOf(0, 3)", x.bridgeOf(0, 3), coat);
        Check.due("bridgeOf(0, 4)", x.bridgeOf(0, 4), condition);
    }

    private static void howOften() {
        Check.sentence("5: how often a crew was sent to it so far");
        CoatedBridges x = Check.withBridges(2, 9);
        x.send(0, 0);
        Check.due("bridgeOf(0, 5) of a call that was refused", x.bridgeOf(0, 5), 0);
        x.days(1);
        for (int i = 1; i <= 3; i++) {
            x.send(0, i % 2);
            x.recall(0);
            Check.due("bridgeOf(0, 5)", x.bridgeOf(0, 5), i);
        }
        x.send(0, 0);
        x.undo();
        Check.due("bridgeOf(0, 5) behind undo()", x.bridgeOf(0, 5), 3);
        Check.due("bridgeOf(1, 5)", x.bridgeOf(1, 5), 0);
        x.set(6, 1);
        x.set(7, 99);
        x.days(1);
        Check.due("bridgeOf(0, 5) when the crew went by itself", x.bridgeOf(0, 5), 4);
    }

    private static void closedDays() {
        Check.sentence("6: days on which it was painted or rusted as the day ended (behind 2.), so far");
        CoatedBridges x = Check.withBridges(2, 9);
        x.days(1);
        x.send(0, 0);
        x.recall(0);
        x.days(1);
        Check.due("bridgeOf(0, 6) of a crew that was called back", x.bridgeOf(0, 6), 0);
        x.send(0, 0);
        x.days(1);
        Check.due("bridgeOf(0, 6) of one that opened on this day", x.bridgeOf(0, 6), 0);
        Check.due("bridgeOf(0, 3)", x.bridgeOf(0, 3), 100);
        x.set(1, 1);
        x.days(1);
        x.send(0, 0);
        x.days(8);
        Check.due("bridgeOf(0, 6) of one that was painted on 8 days", x.bridgeOf(0, 6), 8);
        Check.due("bridgeOf(1, 4) of one that rusted on this day", x.bridgeOf(1, 4), 2);
        Check.due("bridgeOf(1, 6) of one that rusted on this day", x.bridgeOf(1, 6), 1);
        x.days(1);
        Check.due("bridgeOf(0, 6) of one that opened on the ninth", x.bridgeOf(0, 6), 8);
        Check.due("bridgeOf(1, 6) of one that rusted a day ahead", x.bridgeOf(1, 6), 2);
    }

    private static void coinsForPaint() {
        Check.sentence("7: coins that were paid for its paint so far");
        CoatedBridges x = Check.withBridges(2, 9);
        x.set(0, 2);
        x.days(9);
        x.send(0, 0);
        x.set(2, 0);
        x.days(1);
        Check.due("bridgeOf(0, 7) of paint for nothing", x.bridgeOf(0, 7), 0);
        x.set(2, 99);
        x.days(1);
        Check.due("bridgeOf(0, 7)", x.bridgeOf(0, 7), 99);
        x.days(1);
        Check.due("bridgeOf(0, 7)", x.bridgeOf(0, 7), 198);
        x.days(1);
        Check.due("bridgeOf(0, 7) of an open one", x.bridgeOf(0, 7), 198);
        Check.due("bridgeOf(1, 7)", x.bridgeOf(1, 7), 0);
    }

    private static void needed() {
        Check.sentence("8: 1 if it is needed: it is open, and some island that is reached would be alone without it");
        betweenIslandsThatAreAlone();
        CoatedBridges x = Check.withBridges(1, 9);
        Check.due("bridgeOf(0, 8) of the only one", x.bridgeOf(0, 8), 1);
        x.bridge(1, 0, 1);
        Check.due("bridgeOf(0, 8) of two", x.bridgeOf(0, 8), 0);
        Check.due("bridgeOf(1, 8) of two", x.bridgeOf(1, 8), 0);
        x.days(12);
        Check.due("bridgeOf(0, 8) of a rusted one", x.bridgeOf(0, 8), 0);
        Check.due("bridgeOf(1, 8) beside a rusted one", x.bridgeOf(1, 8), 1);
        x.send(1, 1);
        Check.due("bridgeOf(1, 8) of a painted one", x.bridgeOf(1, 8), 0);
    }

    private static void betweenIslandsThatAreAlone() {
        CoatedBridges x = Check.withIslands(2);
        x.bridge(1, 2, 1);
        Check.due("bridgeOf(0, 8) between islands that are alone", x.bridgeOf(0, 8), 0);
        x.bridge(0, 1, 1);
        Check.due("bridgeOf(0, 8)", x.bridgeOf(0, 8), 1);
    }

    private static void dueAll(CoatedBridges x, int bridge, int[] due) {
        for (int what = 0; what < due.length; what++) {
            Check.due("bridgeOf(" + bridge + ", " + what + ")", x.bridgeOf(bridge, what), due[what]);
        }
    }
}
