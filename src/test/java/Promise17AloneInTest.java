public final class Promise17AloneInTest {
    public static void main(String[] args) {
        noneIsReached();
        howManyDays();
        theFirstOne();
        oneThatIsAloneNowDoesNotCount();
        nothingChanges();
        theCrewsKeepItOpen();
        paintedOnesOpenAgain();
        withinTwoHundred();
        behindTheLastDay();
        Check.end();
    }

    private static void noneIsReached() {
        Check.sentence("the first island that is reached now");
        CoatedBridges x = new CoatedBridges();
        Check.due("aloneIn() of the mainland", x.aloneIn(), Check.NOT_FOUND);
        x.island(5);
        Check.due("aloneIn() of one that is alone already", x.aloneIn(), Check.NOT_FOUND);
        x.island(5);
        x.bridge(1, 2, 9);
        Check.due("aloneIn() of two that are alone already", x.aloneIn(), Check.NOT_FOUND);
    }

    private static void howManyDays() {
        Check.sentence("Tells in how many days the first island that is reached now is alone");
        CoatedBridges x = Check.withBridges(1, 3);
        for (int left = 34; left > 0; left--) {
            Check.due("aloneIn()", x.aloneIn(), left);
            Check.due("islandOf(1, 0)", x.islandOf(1, 0), 1);
            x.days(1);
        }
        Check.due("islandOf(1, 0)", x.islandOf(1, 0), 0);
        Check.due("aloneIn() when it is alone", x.aloneIn(), Check.NOT_FOUND);
    }

    private static void theFirstOne() {
        Check.sentence("Tells in how many days the first island that is reached now is alone");
        CoatedBridges x = Check.withBridges(1, 3);
        x.island(5);
        x.bridge(1, 2, 7);
        Check.due("aloneIn() of the later island", x.aloneIn(), 15);
        x.bridge(0, 2, 2);
        Check.due("aloneIn() with another way", x.aloneIn(), 34);
        x.days(20);
        Check.due("aloneIn() later", x.aloneIn(), 14);
        Check.due("count(0) afterwards", x.count(0), 20);
        x.days(14);
        Check.due("aloneIn() of the one that is left", x.aloneIn(), 16);
        x.days(15);
        Check.due("aloneIn() a day ahead", x.aloneIn(), 1);
        x.days(1);
        Check.due("aloneIn() when all are alone", x.aloneIn(), Check.NOT_FOUND);
    }

    /** The island 1 is alone while its bridge is painted, and again when the bridge has rusted. */
    private static void oneThatIsAloneNowDoesNotCount() {
        Check.sentence("the first island that is reached now");
        CoatedBridges x = Check.withIslands(2);
        x.bridge(0, 1, 9);
        x.bridge(0, 2, 2);
        x.days(1);
        Check.due("aloneIn() with both", x.aloneIn(), 11);
        x.send(0, 1);
        Check.due("aloneIn() with the island 2 alone reached", x.aloneIn(), 49);
        x.days(1);
        Check.due("aloneIn() with both again", x.aloneIn(), 12);
    }

    private static void nothingChanges() {
        Check.sentence("Tells in how many days");
        Check.dueUnchanged("aloneIn()", 23, Check::busy, CoatedBridges::aloneIn);
        Check.dueUnchanged("aloneIn()", Check.NOT_FOUND, x -> Check.addIslands(x, 3), CoatedBridges::aloneIn);
    }

    private static void theCrewsKeepItOpen() {
        Check.sentence("crews go by themselves in it, too, if setting 6 is 1");
        CoatedBridges x = Check.withBridges(2, 9);
        x.set(2, 0);
        Check.due("aloneIn() without crews that go", x.aloneIn(), 12);
        x.set(6, 1);
        Check.due("aloneIn() with a crew that goes", x.aloneIn(), Check.NOT_FOUND);
        x.set(7, 0);
        Check.due("aloneIn() with a crew that goes too late", x.aloneIn(), 12);
    }

    /** The one bridge lasts for 100 days; the other one is open again from the day 99 on. */
    private static void paintedOnesOpenAgain() {
        Check.sentence("days that pass in it do all that is told of a day");
        CoatedBridges x = Check.withBridges(2, 1);
        x.set(1, 1);
        x.set(2, 0);
        x.days(99);
        Check.due("send(0, 0)", x.send(0, 0), 0);
        Check.due("aloneIn() with one bridge of the coat 1", x.aloneIn(), 1);
        x.bridge(0, 1, 1);
        Check.due("aloneIn() with a new bridge", x.aloneIn(), 199);
    }

    /** A new bridge lasts for 100 days, and two are painted: the one until the day 100, the other one for as long. */
    private static void withinTwoHundred() {
        Check.sentence("NOT_FOUND if that is not within 200");
        CoatedBridges x = new CoatedBridges();
        x.island(0);
        x.bridge(0, 1, 1);
        x.bridge(0, 1, 1);
        Check.emptyThePurse(x);
        x.days(96);
        Check.due("count(6)", x.count(6), 3);
        Check.due("count(13)", x.count(13), 0);
        x.bridge(0, 1, 1);
        x.set(0, 2);
        x.set(1, 1);
        x.set(2, 1);
        x.set(5, 2);
        x.send(0, 0);
        x.send(1, 0);
        // On the first day there is a coin for the one alone, and so the other one is open a day later.
        x.pay(1);
        Check.due("paintedIn(0)", x.paintedIn(0), 100);
        Check.due("paintedIn(1)", x.paintedIn(1), 101);
        Check.due("aloneIn() of 201 days", x.aloneIn(), Check.NOT_FOUND);
        x.pay(1);
        Check.due("paintedIn(1)", x.paintedIn(1), 100);
        Check.due("aloneIn() of 200 days", x.aloneIn(), 200);
    }

    private static void behindTheLastDay() {
        Check.sentence("Tells in how many days the first island that is reached now is alone");
        CoatedBridges x = Check.withIslands(1);
        Check.write(x, "d99;d99;d99;d99;d99;d99;d99;d99;d99;d99;");
        for (int i = 0; i < 10; i++) {
            x.play();
        }
        x.days(99);
        Check.due("count(0)", x.count(0), 9999);
        x.bridge(0, 1, 9);
        Check.due("aloneIn() on the day 9999", x.aloneIn(), 12);
    }
}
