public final class Promise23ClearTextTest {
    public static void main(String[] args) {
        anEmptyText();
        someText();
        aFullText();
        whatStays();
        Check.end();
    }

    private static void anEmptyText() {
        Check.sentence("Returns the length it had.");
        Check.dueUnchanged("clearText() of nothing", 0, x -> { }, CoatedBridges::clearText);
        CoatedBridges x = new CoatedBridges();
        x.type('i');
        Check.due("clearText() of one character", x.clearText(), 1);
        Check.due("clearText() again", x.clearText(), 0);
    }

    private static void someText() {
        Check.sentence("Empties the text.");
        CoatedBridges x = new CoatedBridges();
        Check.write(x, "i5;b");
        Check.due("fault(0)", x.fault(0), 3);
        Check.due("clearText()", x.clearText(), 4);
        Check.due("count(19)", x.count(19), 0);
        Check.due("fault(0)", x.fault(0), Check.NOT_FOUND);
        Check.due("play() of the empty text", x.play(), 0);
        Check.due("count(1)", x.count(1), 1);
        Check.due("type('d')", x.type('d'), 1);
        Check.due("fault(2) of the new text", x.fault(2), 1);
    }

    private static void aFullText() {
        Check.sentence("Returns the length it had.");
        CoatedBridges x = new CoatedBridges();
        for (int i = 0; i < 61; i++) {
            x.type(';');
        }
        Check.due("clearText() of a full text", x.clearText(), 60);
        Check.due("type('i')", x.type('i'), 1);
    }

    private static void whatStays() {
        Check.sentence("The changes are the calls of island, bridge, send, recall, pay, days, set and play");
        CoatedBridges x = Check.after(Check::busy);
        CoatedBridges twin = Check.after(Check::busy);
        Check.due("clearText()", x.clearText(), 7);
        Check.write(x, "p7;d3;x");
        Check.dueSame("behind clearText() and the same text, ", x, twin);
    }
}
