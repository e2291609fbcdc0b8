public final class Promise14BestTest {
    public static void main(String[] args) {
        CoatedBridges x = new CoatedBridges();
        Check.due("best() without bridges", x.best(), Check.NOT_FOUND);
        x.island(1);
        x.bridge(0, 1, 4);
        x.bridge(0, 1, 6);
        x.bridge(0, 1, 6);
        Check.due("best() of new ones", x.best(), Check.NOT_FOUND);
        x.days(9);
        Check.due("best() with the least coat 46", x.best(), Check.NOT_FOUND);
        x.days(1);
        Check.due("best() with the coat 40 twice", x.best(), 1);
        x.set(7, 39);
        Check.due("best() from 39 on", x.best(), Check.NOT_FOUND);
        x.set(7, 99);
        Check.due("best() from 99 on", x.best(), 1);
        Check.due("send(1, 0)", x.send(1, 0), 0);
        Check.due("best() without a free crew", x.best(), Check.NOT_FOUND);
        x.set(0, 4);
        Check.due("best() with free crews", x.best(), 2);
        x.send(2, 0);
        Check.due("best() when the last one is needed", x.best(), Check.NOT_FOUND);
        x.recall(1);
        Check.due("best() of two open ones", x.best(), 1);
        neededOnesAreLeftOut();
        rustedOnesComeFirst();
        fullOnesAreLeftOut();
        Check.end();
    }

    private static void neededOnesAreLeftOut() {
        CoatedBridges x = Check.withIslands(2);
        x.bridge(0, 2, 9);
        x.bridge(0, 1, 1);
        x.bridge(1, 0, 2);
        x.set(7, 99);
        x.days(5);
        Check.due("best()", x.best(), 2);
    }

    private static void rustedOnesComeFirst() {
        CoatedBridges x = Check.withIslands(2);
        x.bridge(0, 1, 9);
        x.bridge(0, 1, 8);
        x.bridge(0, 2, 9);
        x.days(11);
        x.set(7, 0);
        Check.due("best() from 0 on", x.best(), Check.NOT_FOUND);
        x.days(1);
        Check.due("best() of rusted ones from 0 on", x.best(), 0);
        x.send(0, 0);
        x.set(0, 2);
        Check.due("best() of the other rusted one", x.best(), 2);
    }

    private static void fullOnesAreLeftOut() {
        CoatedBridges x = Check.withBridges(2, 1);
        x.set(7, 99);
        Check.due("best() of full ones", x.best(), Check.NOT_FOUND);
        x.days(1);
        Check.due("best() of the coat 99", x.best(), 0);
    }
}
