public final class Promise16PaintedInTest {
    public static void main(String[] args) {
        CoatedBridges x = Check.withBridges(2, 9);
        Check.due("paintedIn(-1)", x.paintedIn(-1), Check.INVALID);
        Check.due("paintedIn(2)", x.paintedIn(2), Check.INVALID);
        Check.due("paintedIn(MIN)", x.paintedIn(Integer.MIN_VALUE), Check.INVALID);
        Check.due("paintedIn(0) of an open one", x.paintedIn(0), Check.NOT_POSSIBLE);
        x.days(10);
        x.send(0, 0);
        Check.due("paintedIn(0) of the coat 10", x.paintedIn(0), 3);
        x.set(1, 29);
        Check.due("paintedIn(0) with 29 a day", x.paintedIn(0), 4);
        x.set(1, 100);
        Check.due("paintedIn(0) with 100 a day", x.paintedIn(0), 1);
        Check.due("count(0) afterwards", x.count(0), 10);
        Check.due("count(13) afterwards", x.count(13), 320);
        Check.due("count(18) afterwards", x.count(18), 4);
        Check.due("bridgeOf(0, 3) afterwards", x.bridgeOf(0, 3), 10);
        x.days(2);
        Check.due("paintedIn(1) of a rusted one", x.paintedIn(1), Check.NOT_POSSIBLE);
        theCoinsRunOut();
        withinTwoHundred();
        crewsThatGoTakeTheCoins();
        aCrewDoesNotComeBackAtOnce();
        Check.end();
    }

    private static void theCoinsRunOut() {
        CoatedBridges x = Check.withBridges(1, 9);
        x.set(5, 0);
        x.days(12);
        x.send(0, 0);
        x.set(2, 50);
        Check.due("paintedIn(0) of four days for 200 coins", x.paintedIn(0), 4);
        x.set(2, 51);
        Check.due("paintedIn(0) of three days for 200 coins", x.paintedIn(0), Check.NOT_FOUND);
        x.set(5, 1);
        // 200 - 3 * 51 + 3 = 50 coins on the fourth day, 51 on the fifth
        Check.due("paintedIn(0) with a coin a day", x.paintedIn(0), 5);
    }

    /** With a coin a day and two coins a day of painting, each second day is painted. */
    private static void withinTwoHundred() {
        CoatedBridges x = new CoatedBridges();
        x.island(0);
        x.bridge(0, 1, 9);
        x.set(5, 0);
        x.days(12);
        spendAllOnFerries(x);
        x.set(5, 1);
        x.set(2, 2);
        x.set(1, 1);
        x.send(0, 0);
        Check.due("paintedIn(0) of 201 days", x.paintedIn(0), Check.NOT_FOUND);
        x.pay(1);
        Check.due("paintedIn(0) of 200 days", x.paintedIn(0), 200);
    }

    private static void spendAllOnFerries(CoatedBridges x) {
        x.island(50);
        x.set(3, 1);
        x.days(4);
        x.set(3, 0);
        Check.due("count(13) behind the ferries", x.count(13), 0);
    }

    /** Crews go to 0 and 1 in turn, and both are paid ahead of 2. */
    private static void crewsThatGoTakeTheCoins() {
        CoatedBridges x = Check.withBridges(3, 9);
        x.set(5, 10);
        x.set(2, 99);
        x.set(0, 2);
        x.days(10);
        Check.due("send(2, 0)", x.send(2, 0), 0);
        Check.due("paintedIn(2) alone", x.paintedIn(2), 3);
        x.set(6, 1);
        Check.due("paintedIn(2) behind the others", x.paintedIn(2), Check.NOT_FOUND);
    }

    private static void aCrewDoesNotComeBackAtOnce() {
        CoatedBridges x = Check.withBridges(2, 1);
        x.set(6, 1);
        x.set(7, 99);
        x.days(1);
        Check.due("bridgeOf(0, 4)", x.bridgeOf(0, 4), 1);
        Check.due("paintedIn(0)", x.paintedIn(0), 1);
    }
}
