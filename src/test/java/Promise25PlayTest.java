public final class Promise25PlayTest {
    public static void main(String[] args) {
        CoatedBridges x = new CoatedBridges();
        Check.due("play() of the empty text", x.play(), 0);
        Check.due("count(18)", x.count(18), 1);

        Check.write(x, "i007;i9;b0,1,9;b1,2,3;");
        Check.due("play()", x.play(), 4);
        Check.due("count(1)", x.count(1), 3);
        Check.due("count(2)", x.count(2), 2);
        Check.due("islandOf(1, 2)", x.islandOf(1, 2), 7);
        Check.due("bridgeOf(1, 0)", x.bridgeOf(1, 0), 1);
        Check.due("bridgeOf(1, 1)", x.bridgeOf(1, 1), 2);
        Check.due("bridgeOf(1, 2)", x.bridgeOf(1, 2), 3);
        Check.due("count(18)", x.count(18), 2);
        Check.due("count(19)", x.count(19), 22);
        Check.due("play() once more", x.play(), 4);
        Check.due("count(1)", x.count(1), 5);
        Check.due("undo()", x.undo(), 2);
        Check.due("count(1)", x.count(1), 3);

        Check.write(x, "p56;d4;f0;d1;r0;d12;s0;");
        Check.due("play()", x.play(), 7);
        Check.due("count(0)", x.count(0), 17);
        Check.due("bridgeOf(0, 4)", x.bridgeOf(0, 4), 1);
        Check.due("bridgeOf(0, 5)", x.bridgeOf(0, 5), 2);
        Check.due("count(13)", x.count(13), 200 + 56 + 17 * 12 - 10);
        Check.due("undo()", x.undo(), 2);
        Check.due("count(0)", x.count(0), 0);
        faultsChangeNothing();
        aFullText();
        Check.end();
    }

    private static void faultsChangeNothing() {
        CoatedBridges x = new CoatedBridges();
        String[] texts = {"i5", "i5;i100;", "i5;d3;x", "i5;d3;b0,2,1;"};
        for (String text : texts) {
            Check.write(x, text);
            Check.due("play() of " + text, x.play(), Check.NOT_POSSIBLE);
            Check.due("count(0) behind " + text, x.count(0), 0);
            Check.due("count(1) behind " + text, x.count(1), 1);
            Check.due("count(18) behind " + text, x.count(18), 0);
            Check.due("count(19) behind " + text, x.count(19), text.length());
        }
        Check.due("type(';') behind a fault", x.type(';'), 14);
    }

    private static void aFullText() {
        CoatedBridges x = new CoatedBridges();
        StringBuilder text = new StringBuilder();
        for (int i = 0; i < 20; i++) {
            text.append("p1;");
        }
        Check.write(x, text.toString());
        Check.due("play() of 60 characters", x.play(), 20);
        Check.due("count(13)", x.count(13), 220);
        x.clearText();
        Check.write(x, "d99;d99;d99;d99;d99;d99;d99;d99;d99;d99;d99;d99;d99;d99;d99;");
        Check.due("play() of 1485 days", x.play(), 15);
        Check.due("count(0)", x.count(0), 1485);
    }
}
