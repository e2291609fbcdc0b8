public final class Promise16PaintedInTest {
    public static void main(String[] args) {
        wrongArguments();
        notPainted();
        howManyDays();
        theCoinsRunOut();
        withinTwoHundred();
        fewerCrewsThanAreOut();
        crewsThatGoTakeTheCoins();
        aCrewDoesNotComeBackAtOnce();
        behindTheLastDay();
        Check.end();
    }

    private static void wrongArguments() {
        Check.sentence("bridge: number of the bridge; INVALID_ARGUMENT");
        for (int bridge : new int[] {-1, 4, 13, 14, Integer.MIN_VALUE, Integer.MAX_VALUE}) {
            Check.dueUnchanged("paintedIn(" + bridge + ")", Check.INVALID, Check::busy, x -> x.paintedIn(bridge));
        }
        CoatedBridges x = Check.withBridges(14, 9);
        x.days(1);
        x.send(13, 0);
        Check.due("paintedIn(13)", x.paintedIn(13), 1);
        Check.due("paintedIn(14)", x.paintedIn(14), Check.INVALID);
    }

    private static void notPainted() {
        Check.sentence("NOT_POSSIBLE if it is not painted");
        Check.dueUnchanged("paintedIn(0) of a rusted one", Check.NOT_POSSIBLE, Check::busy, x -> x.paintedIn(0));
        Check.dueUnchanged("paintedIn(2) of an open one", Check.NOT_POSSIBLE, Check::busy, x -> x.paintedIn(2));
        Check.dueUnchanged("paintedIn(0) of a full one", Check.NOT_POSSIBLE, x -> Check.addBridges(x, 1, 1),
            x -> x.paintedIn(0));
        CoatedBridges x = Check.after(Check::busy);
        x.recall(1);
        Check.due("paintedIn(1) when the crew is back", x.paintedIn(1), Check.NOT_POSSIBLE);
    }

    private static void howManyDays() {
        Check.sentence("Tells in how many days a painted bridge is open, if nothing else is done.");
        Check.dueUnchanged("paintedIn(1) of the coat 30", 3, Check::busy, x -> x.paintedIn(1));
        int[] daily = {1, 17, 18, 22, 23, 29, 30, 44, 45, 89, 90, 100};
        int[] days = {90, 6, 5, 5, 4, 4, 3, 3, 2, 2, 1, 1};
        CoatedBridges x = Check.withBridges(2, 9);
        x.days(10);
        x.send(0, 0);
        x.set(2, 0);
        for (int i = 0; i < daily.length; i++) {
            x.set(1, daily[i]);
            Check.due("paintedIn(0) of the coat 10 with " + daily[i] + " a day", x.paintedIn(0), days[i]);
        }
        x.set(1, 30);
        for (int left = 3; left > 0; left--) {
            Check.due("paintedIn(0)", x.paintedIn(0), left);
            Check.due("bridgeOf(0, 4)", x.bridgeOf(0, 4), 1);
            x.days(1);
        }
        Check.due("bridgeOf(0, 4)", x.bridgeOf(0, 4), 0);
    }

    private static void theCoinsRunOut() {
        Check.sentence("if the purse has setting 2 coins or more");
        CoatedBridges x = Check.withBridges(1, 9);
        x.set(5, 0);
        x.days(12);
        x.send(0, 0);
        x.set(2, 50);
        Check.due("paintedIn(0) of four days for 200 coins", x.paintedIn(0), 4);
        x.set(2, 51);
        Check.due("paintedIn(0) of three days for 200 coins", x.paintedIn(0), Check.NOT_FOUND);
        x.set(5, 1);
        // 200 - 3 * 51 + 3 = 50 coins on the fourth day, 51 on the fifth
        Check.due("paintedIn(0) with a coin a day", x.paintedIn(0), 5);
    }

    /** With a coin a day and two coins a day of painting, each second day is painted. */
    private static void withinTwoHundred() {
        Check.sentence("NOT_FOUND if that is not within 200");
        Check.Way poor = x -> {
            x.island(0);
            x.bridge(0, 1, 9);
            x.set(5, 0);
            x.days(12);
            Check.emptyThePurse(x);
            x.set(5, 1);
            x.set(2, 2);
            x.set(1, 1);
            x.send(0, 0);
        };
        Check.dueUnchanged("paintedIn(0) of 201 days", Check.NOT_FOUND, poor, x -> x.paintedIn(0));
        CoatedBridges x = Check.after(poor);
        x.days(1);
        Check.due("paintedIn(0) of 200 days", x.paintedIn(0), 200);
        x.days(1);
        Check.due("paintedIn(0) of 199 days", x.paintedIn(0), 199);
        CoatedBridges y = Check.after(poor);
        y.pay(1);
        Check.due("paintedIn(0) of 200 days for a coin", y.paintedIn(0), 200);
        y.days(99);
        y.days(99);
        y.days(1);
        Check.due("bridgeOf(0, 4) on the day ahead", y.bridgeOf(0, 4), 1);
        Check.due("paintedIn(0) on the day ahead", y.paintedIn(0), 1);
        y.days(1);
        Check.due("bridgeOf(0, 4)", y.bridgeOf(0, 4), 0);
        CoatedBridges z = Check.after(poor);
        z.set(5, 0);
        Check.due("paintedIn(0) without coins", z.paintedIn(0), Check.NOT_FOUND);
    }

    private static void fewerCrewsThanAreOut() {
        Check.sentence("With fewer crews those that are on bridges stay until they leave.");
        CoatedBridges x = Check.withBridges(2, 9);
        x.days(10);
        x.send(0, 0);
        x.set(0, 0);
        Check.due("paintedIn(0) with no crews", x.paintedIn(0), 3);
        x.days(2);
        Check.due("bridgeOf(0, 4)", x.bridgeOf(0, 4), 1);
        x.days(1);
        Check.due("bridgeOf(0, 4)", x.bridgeOf(0, 4), 0);
    }

    /** Crews go to 0 and 1 in turn, and both are paid ahead of 2. */
    private static void crewsThatGoTakeTheCoins() {
        Check.sentence("crews go by themselves in it, too, if setting 6 is 1");
        CoatedBridges x = Check.withBridges(3, 9);
        x.set(5, 10);
        x.set(2, 99);
        x.set(0, 2);
        x.days(10);
        Check.due("send(2, 0)", x.send(2, 0), 0);
        Check.due("paintedIn(2) alone", x.paintedIn(2), 3);
        x.set(6, 1);
        Check.due("paintedIn(2) behind the others", x.paintedIn(2), Check.NOT_FOUND);
    }

    private static void aCrewDoesNotComeBackAtOnce() {
        Check.sentence("crews go by themselves in it, too, if setting 6 is 1");
        CoatedBridges x = Check.withBridges(2, 1);
        x.set(6, 1);
        x.set(7, 99);
        x.days(1);
        Check.due("bridgeOf(0, 4)", x.bridgeOf(0, 4), 1);
        Check.due("paintedIn(0)", x.paintedIn(0), 1);
    }

    private static void behindTheLastDay() {
        Check.sentence("Tells in how many days a painted bridge is open, if nothing else is done.");
        CoatedBridges x = Check.withBridges(2, 9);
        Check.write(x, "d99;d99;d99;d99;d99;d99;d99;d99;d99;d99;");
        for (int i = 0; i < 10; i++) {
            x.play();
        }
        x.days(99);
        Check.due("count(0)", x.count(0), 9999);
        x.send(0, 0);
        Check.due("paintedIn(0) on the day 9999", x.paintedIn(0), 4);
        Check.due("days(1) on the day 9999", x.days(1), Check.LIMIT);
    }
}
