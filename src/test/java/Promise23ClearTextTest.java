public final class Promise23ClearTextTest {
    public static void main(String[] args) {
        CoatedBridges x = new CoatedBridges();
        Check.due("clearText() of nothing", x.clearText(), 0);
        Check.write(x, "i5;b");
        Check.due("fault(0)", x.fault(0), 3);
        Check.due("clearText()", x.clearText(), 4);
        Check.due("count(19)", x.count(19), 0);
        Check.due("fault(0)", x.fault(0), Check.NOT_FOUND);
        Check.due("clearText() again", x.clearText(), 0);
        Check.due("play() of the empty text", x.play(), 0);
        Check.due("count(1)", x.count(1), 1);
        for (int i = 0; i < 60; i++) {
            x.type(';');
        }
        Check.due("clearText() of a full text", x.clearText(), 60);
        Check.due("type('i')", x.type('i'), 1);
        Check.due("count(18), as only play is a change", x.count(18), 1);
        Check.end();
    }
}
