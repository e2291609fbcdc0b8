public final class Promise14BestTest {
    public static void main(String[] args) {
        noneAtAll();
        coatsAtTheSetting();
        theLeastCoat();
        theLowestOfSeveral();
        onlyWhereOneCanBeSent();
        neededOnesAreLeftOut();
        rustedOnesComeFirst();
        fullOnesAreLeftOut();
        theLastBridge();
        itSendsNone();
        Check.end();
    }

    private static void noneAtAll() {
        Check.sentence("NOT_FOUND if there is none");
        CoatedBridges x = new CoatedBridges();
        Check.due("best() without bridges", x.best(), Check.NOT_FOUND);
        x.island(1);
        x.bridge(0, 1, 4);
        x.bridge(0, 1, 4);
        Check.due("best() of new ones", x.best(), Check.NOT_FOUND);
        Check.dueUnchanged("best() without a free crew", Check.NOT_FOUND, Check::busy, CoatedBridges::best);
    }

    private static void coatsAtTheSetting() {
        Check.sentence("of those with a coat of at most setting 7");
        CoatedBridges x = Check.withBridges(2, 6);
        x.days(9);
        Check.due("best() with the coat 46", x.best(), Check.NOT_FOUND);
        x.days(1);
        Check.due("best() with the coat 40", x.best(), 0);
        x.set(7, 39);
        Check.due("best() of the coat 40 from 39 on", x.best(), Check.NOT_FOUND);
        x.set(7, 41);
        Check.due("best() of the coat 40 from 41 on", x.best(), 0);
        x.set(7, 40);
        Check.due("best() of the coat 40 from 40 on", x.best(), 0);
    }

    private static void theLeastCoat() {
        Check.sentence("the one with the least coat");
        CoatedBridges x = Check.withBridges(1, 4);
        x.bridge(0, 1, 6);
        x.bridge(0, 1, 5);
        x.set(7, 99);
        x.days(1);
        Check.due("best() of 96, 94, 95", x.best(), 1);
        x.set(0, 4);
        x.send(1, 0);
        Check.due("best() of 96 and 95", x.best(), 2);
        x.send(2, 0);
        Check.due("best() when the last one is needed", x.best(), Check.NOT_FOUND);
    }

    private static void theLowestOfSeveral() {
        Check.sentence("of several the lowest one");
        CoatedBridges x = Check.withBridges(1, 4);
        x.bridge(0, 1, 6);
        x.bridge(0, 1, 6);
        x.bridge(0, 1, 6);
        x.days(10);
        Check.due("best() with the coat 40 thrice", x.best(), 1);
        x.set(0, 4);
        x.send(1, 0);
        Check.due("best() with the coat 40 twice", x.best(), 2);
        x.recall(1);
        Check.due("best() with the coat 40 thrice again", x.best(), 1);
    }

    private static void onlyWhereOneCanBeSent() {
        Check.sentence("to which one can be sent");
        CoatedBridges x = Check.withBridges(3, 9);
        x.days(10);
        Check.due("best()", x.best(), 0);
        x.set(0, 0);
        Check.due("best() without crews", x.best(), Check.NOT_FOUND);
        x.set(0, 1);
        x.send(1, 0);
        Check.due("best() without a free crew", x.best(), Check.NOT_FOUND);
        x.set(0, 2);
        Check.due("best() with a free crew", x.best(), 0);
        x.send(0, 0);
        x.set(0, 3);
        Check.due("best() when the last one is needed", x.best(), Check.NOT_FOUND);
        x.set(0, 1);
        x.recall(0);
        Check.due("best() with as many crews as are out", x.best(), Check.NOT_FOUND);
    }

    private static void neededOnesAreLeftOut() {
        Check.sentence("to which one can be sent");
        CoatedBridges x = Check.withIslands(2);
        x.bridge(0, 2, 9);
        x.bridge(0, 1, 1);
        x.bridge(1, 0, 2);
        x.set(7, 99);
        x.days(5);
        Check.due("best()", x.best(), 2);
    }

    private static void rustedOnesComeFirst() {
        Check.sentence("7 the coat from which on downward they do (0 to 99; 40)");
        CoatedBridges x = Check.withIslands(2);
        x.bridge(0, 1, 9);
        x.bridge(0, 1, 8);
        x.bridge(0, 2, 9);
        x.days(11);
        x.set(7, 0);
        Check.due("best() of the coat 1 from 0 on", x.best(), Check.NOT_FOUND);
        x.set(7, 1);
        Check.due("best() of the coat 1 from 1 on", x.best(), 0);
        x.set(7, 0);
        x.days(1);
        Check.due("best() of rusted ones from 0 on", x.best(), 0);
        x.send(0, 0);
        x.set(0, 2);
        Check.due("best() of the other rusted one", x.best(), 2);
    }

    private static void fullOnesAreLeftOut() {
        Check.sentence("7 the coat from which on downward they do (0 to 99; 40)");
        CoatedBridges x = Check.withBridges(2, 1);
        x.set(7, 99);
        Check.due("best() of full ones from 99 on", x.best(), Check.NOT_FOUND);
        x.days(1);
        Check.due("best() of the coat 99 from 99 on", x.best(), 0);
        x.set(7, 98);
        Check.due("best() of the coat 99 from 98 on", x.best(), Check.NOT_FOUND);
    }

    private static void theLastBridge() {
        Check.sentence("Returns the bridge");
        CoatedBridges x = Check.withBridges(13, 1);
        x.bridge(0, 1, 2);
        x.set(7, 98);
        x.days(1);
        Check.due("best()", x.best(), 13);
    }

    private static void itSendsNone() {
        Check.sentence("Finds the bridge to which a crew goes by itself next");
        Check.Way worn = x -> {
            Check.busy(x);
            x.set(0, 4);
        };
        Check.dueUnchanged("best()", 0, worn, CoatedBridges::best);
        CoatedBridges x = Check.after(worn);
        x.set(6, 1);
        int next = x.best();
        x.days(1);
        Check.due("bridgeOf(.., 4) of the one that was next", x.bridgeOf(next, 4), 1);
    }
}
