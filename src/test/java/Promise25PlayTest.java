public final class Promise25PlayTest {
    public static void main(String[] args) {
        noOrders();
        allOrders();
        oneChange();
        eachOrderIsItsCall();
        aFault();
        faultsChangeNothing();
        theTextStays();
        aFullText();
        Check.end();
    }

    private static void noOrders() {
        Check.sentence("They are one change, also if there are none.");
        CoatedBridges x = new CoatedBridges();
        Check.due("play() of the empty text", x.play(), 0);
        Check.due("count(18)", x.count(18), 1);
        Check.due("play() once more", x.play(), 0);
        Check.due("count(18)", x.count(18), 2);
        Check.due("undo()", x.undo(), 1);
        Check.due("undo()", x.undo(), 0);
        Check.due("count(13)", x.count(13), 200);
    }

    private static void allOrders() {
        Check.sentence("Does all orders of the text; returns how many there are in it");
        CoatedBridges x = new CoatedBridges();
        Check.write(x, "i007;i9;b0,1,9;b1,2,3;");
        Check.due("play()", x.play(), 4);
        Check.due("count(1)", x.count(1), 3);
        Check.due("count(2)", x.count(2), 2);
        Check.due("islandOf(1, 2)", x.islandOf(1, 2), 7);
        Check.due("bridgeOf(1, 0)", x.bridgeOf(1, 0), 1);
        Check.due("bridgeOf(1, 1)", x.bridgeOf(1, 1), 2);
        Check.due("bridgeOf(1, 2)", x.bridgeOf(1, 2), 3);
        Check.write(x, "p56;d4;f0;d1;r0;d12;s0;");
        Check.due("play()", x.play(), 7);
        Check.due("count(0)", x.count(0), 17);
        Check.due("bridgeOf(0, 4)", x.bridgeOf(0, 4), 1);
        Check.due("bridgeOf(0, 5)", x.bridgeOf(0, 5), 2);
        Check.due("count(13)", x.count(13), 200 + 56 + 17 * 12 - 10);
        Check.write(x, "p1;");
        Check.due("play() of one", x.play(), 1);
    }

    private static void oneChange() {
        Check.sentence("They are one change");
        CoatedBridges x = Check.withIslands(2);
        Check.write(x, "i7;i9;b0,1,9;d9;p9;");
        Check.due("play()", x.play(), 5);
        Check.due("count(18)", x.count(18), 3);
        Check.due("undo()", x.undo(), 2);
        Check.due("count(0)", x.count(0), 0);
        Check.due("count(1)", x.count(1), 3);
        Check.due("count(2)", x.count(2), 0);
        Check.due("count(13)", x.count(13), 200);
        Check.due("play() once more", x.play(), 5);
        Check.due("count(1)", x.count(1), 5);
        Check.due("play() of the sixth and seventh", x.play(), 5);
        Check.due("play() of the ninth", x.play(), Check.NOT_POSSIBLE);
        Check.due("count(18)", x.count(18), 4);
    }

    private static void eachOrderIsItsCall() {
        Check.sentence("'i' a fare, 'b' an island, an island, a wear, 's' a bridge, 'f' by force, 'r', 'p' coins or 'd'");
        String[] orders = {"i33;", "b3,2,7;", "s0;", "f2;", "r1;", "p321;", "d21;"};
        Check.Call[] calls = {
            x -> x.island(33), x -> x.bridge(3, 2, 7), x -> x.send(0, 0), x -> x.send(2, 1), x -> x.recall(1),
            x -> x.pay(321), x -> x.days(21),
        };
        for (int i = 0; i < orders.length; i++) {
            CoatedBridges x = Check.after(Promise25PlayTest::twoCrews);
            Check.write(x, orders[i]);
            Check.due("play() of " + orders[i], x.play(), 1);
            CoatedBridges twin = Check.after(Promise25PlayTest::twoCrews);
            Check.write(twin, orders[i]);
            Check.due("the call of " + orders[i], calls[i].on(twin) >= 0 ? 1 : 0, 1);
            Check.dueSame("behind " + orders[i] + " and its call, ", x, twin);
        }
    }

    private static void twoCrews(CoatedBridges x) {
        Check.busy(x);
        x.set(0, 2);
    }

    private static void aFault() {
        Check.sentence("NOT_POSSIBLE if it has a fault");
        String[] texts = {
            "x", "i5", "i100;", "p0;", "d0;", "d100;", "r0;", "s1;", "f1;", "s4;", "b0,4,1;", "b0,1,1", "i5;i5;i5;i5;i5;",
        };
        for (String text : texts) {
            Check.Way written = x -> {
                Check.busy(x);
                Check.write(x, text);
            };
            Check.dueRefused("play() of " + text, Check.NOT_POSSIBLE, written, CoatedBridges::play);
        }
    }

    private static void faultsChangeNothing() {
        Check.sentence("A call that returns an error changes nothing.");
        CoatedBridges x = new CoatedBridges();
        String[] texts = {"i5", "i5;i100;", "i5;d3;x", "i5;d3;b0,2,1;"};
        for (String text : texts) {
            Check.write(x, text);
            Check.due("play() of " + text, x.play(), Check.NOT_POSSIBLE);
            Check.due("count(0) behind " + text, x.count(0), 0);
            Check.due("count(1) behind " + text, x.count(1), 1);
            Check.due("count(18) behind " + text, x.count(18), 0);
            Check.due("count(19) behind " + text, x.count(19), text.length());
        }
        Check.due("type(';') behind a fault", x.type(';'), 14);
    }

    private static void theTextStays() {
        Check.sentence("Does all orders of the text, which stays.");
        CoatedBridges x = new CoatedBridges();
        Check.write(x, "p10;");
        for (int i = 1; i <= 5; i++) {
            Check.due("play()", x.play(), 1);
            Check.due("count(13)", x.count(13), 200 + 10 * i);
            Check.due("count(19)", x.count(19), 4);
        }
        Check.due("type('d')", x.type('d'), 5);
        Check.due("fault(0)", x.fault(0), 4);
        Check.due("type('1')", x.type('1'), 6);
        Check.due("type(';')", x.type(';'), 7);
        Check.due("play() of more text", x.play(), 2);
        Check.due("count(13)", x.count(13), 272);
    }

    private static void aFullText() {
        Check.sentence("There is a text of at most 60 characters");
        CoatedBridges x = new CoatedBridges();
        StringBuilder text = new StringBuilder();
        for (int i = 0; i < 20; i++) {
            text.append("p1;");
        }
        Check.write(x, text.toString());
        Check.due("play() of 60 characters", x.play(), 20);
        Check.due("count(13)", x.count(13), 220);
        x.clearText();
        Check.write(x, "d99;d99;d99;d99;d99;d99;d99;d99;d99;d99;d99;d99;d99;d99;d99;");
        Check.due("play() of 1485 days", x.play(), 15);
        Check.due("count(0)", x.count(0), 1485);
    }
}
