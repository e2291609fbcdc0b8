public final class Promise01NewObjectTest {
    private static final int CALLS = 512;

    public static void main(String[] args) {
        theConstants();
        whatThereIs();
        whatThereIsNot();
        whatWouldBe();
        objectsAreApart();
        theLastCall();
        Check.end();
    }

    private static void theConstants() {
        Check.sentence("The constants");
        Check.due("INVALID_ARGUMENT", CoatedBridges.INVALID_ARGUMENT, -1000001);
        Check.due("NOT_POSSIBLE", CoatedBridges.NOT_POSSIBLE, -1000002);
        Check.due("LIMIT_REACHED", CoatedBridges.LIMIT_REACHED, -1000003);
        Check.due("NOT_FOUND", CoatedBridges.NOT_FOUND, -1000004);
    }

    private static void whatThereIs() {
        Check.sentence("Begins with the mainland alone, on the day 0, with 200 coins in the purse.");
        CoatedBridges x = new CoatedBridges();
        dueNew(x);
        Check.due("reach(0)", x.reach(0), 1);
    }

    private static void dueNew(CoatedBridges x) {
        int[] counts = {0, 1, 0, 1, 0, 0, 0, 0, 1, 1, 1, 0, 0, 200, 0, 0, 0, 0, 0, 0, 1, 30, 10, 0, 3, 12, 0, 40};
        for (int what = 0; what < counts.length; what++) {
            Check.due("count(" + what + ")", x.count(what), counts[what]);
        }
        int[] mainland = {1, 0, 0, 0, 0, 0, 0, 0};
        for (int what = 0; what < mainland.length; what++) {
            Check.due("islandOf(0, " + what + ")", x.islandOf(0, what), mainland[what]);
        }
        Check.due("undo()", x.undo(), Check.NOT_POSSIBLE);
        Check.due("fault(0)", x.fault(0), Check.NOT_FOUND);
    }

    private static void whatThereIsNot() {
        Check.sentence("If there is no island or bridge with a certain number, this is INVALID_ARGUMENT.");
        CoatedBridges x = new CoatedBridges();
        Check.due("islandOf(1, 0)", x.islandOf(1, 0), Check.INVALID);
        Check.due("reach(1)", x.reach(1), Check.INVALID);
        Check.due("bridge(0, 1, 1)", x.bridge(0, 1, 1), Check.INVALID);
        Check.due("bridge(1, 0, 1)", x.bridge(1, 0, 1), Check.INVALID);
        Check.due("send(0, 0)", x.send(0, 0), Check.INVALID);
        Check.due("send(0, 1)", x.send(0, 1), Check.INVALID);
        Check.due("recall(0)", x.recall(0), Check.INVALID);
        Check.due("bridgeOf(0, 0)", x.bridgeOf(0, 0), Check.INVALID);
        Check.due("why(0, 0)", x.why(0, 0), Check.INVALID);
        Check.due("why(0, 1)", x.why(0, 1), Check.INVALID);
        Check.due("rustsIn(0)", x.rustsIn(0), Check.INVALID);
        Check.due("paintedIn(0)", x.paintedIn(0), Check.INVALID);
        dueNew(x);
    }

    private static void whatWouldBe() {
        Check.sentence("Begins with the mainland alone, on the day 0, with 200 coins in the purse.");
        CoatedBridges x = new CoatedBridges();
        Check.due("book(0, 0)", x.book(0, 0), Check.NOT_FOUND);
        Check.due("book(0, 1)", x.book(0, 1), Check.NOT_FOUND);
        Check.due("best()", x.best(), Check.NOT_FOUND);
        Check.due("aloneIn()", x.aloneIn(), Check.NOT_FOUND);
        Check.due("ifDays(99)", x.ifDays(99), 0);
        Check.due("mean()", x.mean(), Check.NOT_FOUND);
        Check.due("fault(1)", x.fault(1), Check.NOT_FOUND);
        Check.due("fault(2)", x.fault(2), Check.NOT_FOUND);
        Check.due("clearText()", x.clearText(), 0);
        dueNew(x);
    }

    private static void objectsAreApart() {
        Check.sentence("Begins with the mainland alone");
        CoatedBridges early = new CoatedBridges();
        CoatedBridges used = Check.after(Check::busy);
        dueNew(early);
        dueNew(new CoatedBridges());
        early.pay(1);
        Check.dueSame("beside another object, ", used, Check.after(Check::busy));
    }

    private static void theLastCall() {
        Check.sentence("An object is used for at most 512 calls after it has been made");
        CoatedBridges x = new CoatedBridges();
        for (int made = 1; made < CALLS; made++) {
            Check.due("pay(1), the call " + made, x.pay(1), 200 + made);
        }
        Check.due("undo(), the call 512", x.undo(), 3);

        CoatedBridges y = new CoatedBridges();
        for (int made = 1; made < CALLS; made++) {
            Check.due("set(1, ..), the call " + made, y.set(1, 1 + made % 100), made == 1 ? 30 : 1 + (made - 1) % 100);
        }
        Check.due("count(21), the call 512", y.count(21), 1 + 511 % 100);
    }
}
