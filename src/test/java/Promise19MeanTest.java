public final class Promise19MeanTest {
    public static void main(String[] args) {
        withoutBridges();
        theEnds();
        everyCoatOfOne();
        everyMeanOfFourteen();
        fullOnes();
        ofAllBridges();
        nothingChanges();
        Check.end();
    }

    private static void withoutBridges() {
        Check.sentence("NOT_FOUND without bridges");
        CoatedBridges x = new CoatedBridges();
        Check.due("mean() without bridges", x.mean(), Check.NOT_FOUND);
        x.island(1);
        Check.due("mean() without bridges", x.mean(), Check.NOT_FOUND);
        x.bridge(0, 1, 1);
        Check.due("mean() of one", x.mean(), 0x42C80000);
        x.undo();
        Check.due("mean() of one that was undone", x.mean(), Check.NOT_FOUND);
    }

    private static void theEnds() {
        Check.sentence("Returns the bits of the float");
        CoatedBridges x = Check.withBridges(1, 1);
        Check.due("mean() of 100", x.mean(), 0x42C80000);
        x.days(99);
        Check.due("mean() of 1", x.mean(), 0x3F800000);
        x.days(1);
        Check.due("mean() of 0", x.mean(), 0);
        for (int i = 1; i < 14; i++) {
            x.bridge(0, 1, 9);
        }
        x.days(12);
        Check.due("mean() of 0 of fourteen", x.mean(), 0);
        x.set(1, 1);
        x.send(0, 0);
        x.days(1);
        Check.due("mean() of 1 of fourteen", x.mean(), 0x3D924925);
    }

    /** The powers of 2 are among them. */
    private static void everyCoatOfOne() {
        Check.sentence("their coats together, as a float, divided by how many there are, as a float");
        CoatedBridges x = Check.withBridges(1, 1);
        for (int coat = 100; coat >= 0; coat--) {
            Check.due("mean() of " + coat, x.mean(), Float.floatToIntBits((float) coat));
            x.days(1);
        }
    }

    /** The bridges of other wears rust one by one, down to one coat of 1 among fourteen. */
    private static void everyMeanOfFourteen() {
        Check.sentence("their coats together, as a float, divided by how many there are, as a float");
        CoatedBridges x = Check.withIslands(1);
        int[] wears = new int[14];
        int[] coats = new int[14];
        for (int many = 1; many <= 14; many++) {
            wears[many - 1] = many < 14 ? 1 + many % 9 : 1;
            coats[many - 1] = 100;
            x.bridge(0, 1, wears[many - 1]);
            dueMean(x, coats, many);
            x.days(1);
            wearOff(coats, wears);
            dueMean(x, coats, many);
        }
        for (int i = 0; i < 100; i++) {
            x.days(1);
            wearOff(coats, wears);
            dueMean(x, coats, 14);
        }
    }

    private static void wearOff(int[] coats, int[] wears) {
        for (int i = 0; i < coats.length; i++) {
            coats[i] = Math.max(0, coats[i] - wears[i]);
        }
    }

    private static void dueMean(CoatedBridges x, int[] coats, int many) {
        int sum = 0;
        for (int i = 0; i < many; i++) {
            sum += coats[i];
        }
        float mean = (float) sum / (float) many;
        Check.due("mean() of " + sum + " in all", x.mean(), Float.floatToIntBits(mean));
    }

    private static void fullOnes() {
        Check.sentence("Returns the mean coat of all bridges, as a float");
        CoatedBridges x = Check.withIslands(1);
        for (int i = 0; i < 14; i++) {
            x.bridge(0, 1, 9);
            Check.due("mean() of full ones", x.mean(), Float.floatToIntBits(100f));
        }
    }

    /** Open, painted and rusted ones. */
    private static void ofAllBridges() {
        Check.sentence("Returns the mean coat of all bridges, as a float");
        CoatedBridges x = Check.after(Check::busy);
        Check.due("mean() of 0, 30, 86, 86", x.mean(), Float.floatToIntBits(50.5f));
    }

    private static void nothingChanges() {
        Check.sentence("Returns the mean coat of all bridges, as a float");
        Check.dueUnchanged("mean()", Float.floatToIntBits(50.5f), Check::busy, CoatedBridges::mean);
        Check.dueUnchanged("mean()", Check.NOT_FOUND, x -> Check.addIslands(x, 2), CoatedBridges::mean);
    }
}
