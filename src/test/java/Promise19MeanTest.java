public final class Promise19MeanTest {
    public static void main(String[] args) {
        CoatedBridges x = new CoatedBridges();
        Check.due("mean() without bridges", x.mean(), Check.NOT_FOUND);
        x.island(1);
        Check.due("mean() without bridges", x.mean(), Check.NOT_FOUND);
        x.bridge(0, 1, 1);
        Check.due("mean() of 100", x.mean(), 0x42C80000);
        x.days(99);
        Check.due("mean() of 1", x.mean(), 0x3F800000);
        x.days(1);
        Check.due("mean() of 0", x.mean(), 0);
        everyCoatOfOne();
        everyMeanOfFourteen();
        Check.end();
    }

    /** The powers of 2 are among them. */
    private static void everyCoatOfOne() {
        CoatedBridges x = Check.withBridges(1, 1);
        for (int coat = 100; coat >= 0; coat--) {
            Check.due("mean() of " + coat, x.mean(), Float.floatToIntBits((float) coat));
            x.days(1);
        }
    }

    /** The bridges of other wears rust one by one, down to one coat of 1 among fourteen. */
    private static void everyMeanOfFourteen() {
        CoatedBridges x = Check.withIslands(1);
        for (int many = 1; many <= 14; many++) {
            x.bridge(0, 1, many < 14 ? 1 + many % 9 : 1);
            dueMean(x);
            x.days(1);
            dueMean(x);
        }
        for (int i = 0; i < 100; i++) {
            x.days(1);
            dueMean(x);
        }
    }

    private static void dueMean(CoatedBridges x) {
        int sum = 0;
        for (int i = 0; i < x.count(2); i++) {
            sum += x.bridgeOf(i, 3);
        }
        float mean = (float) sum / (float) x.count(2);
        Check.due("mean() of " + sum + " in all", x.mean(), Float.floatToIntBits(mean));
    }
}
