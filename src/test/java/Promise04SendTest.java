public final class Promise04SendTest {
    public static void main(String[] args) {
        wrongArguments();
        anArgumentAheadOfAReason();
        aPaintedOne();
        aFullCoat();
        noFreeCrew();
        anIslandAlone();
        setOfTheLost();
        theLastBridge();
        rustedLosesNone();
        whatItCounts();
        fewerCrewsThanAreOut();
        Check.end();
    }

    private static void worn(CoatedBridges x) {
        Check.addBridges(x, 3, 2);
        x.days(1);
    }

    private static void wrongArguments() {
        Check.sentence("INVALID_ARGUMENT if an argument is out of range");
        int[][] wrong = {
            {-1, 0}, {3, 0}, {13, 0}, {14, 1}, {-1, 1}, {Integer.MAX_VALUE, 1}, {Integer.MIN_VALUE, 0},
            {0, 2}, {0, -1}, {0, Integer.MAX_VALUE}, {0, Integer.MIN_VALUE}, {3, 2},
        };
        for (int[] a : wrong) {
            Check.dueRefused("send(" + a[0] + ", " + a[1] + ")", Check.INVALID, Promise04SendTest::worn,
                x -> x.send(a[0], a[1]));
        }
        CoatedBridges x = Check.after(Promise04SendTest::worn);
        Check.due("send(2, 1) of the last one", x.send(2, 1), 0);
    }

    private static void anArgumentAheadOfAReason() {
        Check.sentence("INVALID_ARGUMENT is returned rather than NOT_POSSIBLE");
        Check.Way painted = x -> {
            worn(x);
            x.send(0, 0);
        };
        for (int force : new int[] {-1, 2}) {
            Check.dueRefused("send(0, " + force + ") of a painted one", Check.INVALID, painted, x -> x.send(0, force));
            Check.dueRefused("send(1, " + force + ") without a crew", Check.INVALID, painted, x -> x.send(1, force));
            Check.dueRefused("send(0, " + force + ") of a full one", Check.INVALID, x -> Check.addBridges(x, 1, 1),
                x -> x.send(0, force));
        }
    }

    private static void aPaintedOne() {
        Check.sentence("NOT_POSSIBLE for the reasons 1 to 4 (by force 1 to 3): 1 it is painted");
        Check.Way painted = x -> {
            worn(x);
            x.set(0, 4);
            x.send(0, 0);
        };
        Check.dueRefused("send(0, 0) to a painted one", Check.NOT_POSSIBLE, painted, x -> x.send(0, 0));
        Check.dueRefused("send(0, 1) to a painted one", Check.NOT_POSSIBLE, painted, x -> x.send(0, 1));
        CoatedBridges x = Check.after(painted);
        x.recall(0);
        Check.due("send(0, 0) when the crew is back", x.send(0, 0), 0);
    }

    private static void aFullCoat() {
        Check.sentence("NOT_POSSIBLE for the reasons 1 to 4 (by force 1 to 3): 2 its coat is 100");
        Check.Way full = x -> Check.addBridges(x, 2, 1);
        Check.dueRefused("send(0, 0) with the coat 100", Check.NOT_POSSIBLE, full, x -> x.send(0, 0));
        Check.dueRefused("send(0, 1) with the coat 100", Check.NOT_POSSIBLE, full, x -> x.send(0, 1));
        CoatedBridges x = Check.after(full);
        x.days(1);
        Check.due("bridgeOf(0, 3)", x.bridgeOf(0, 3), 99);
        Check.due("send(0, 0) with the coat 99", x.send(0, 0), 0);
    }

    private static void noFreeCrew() {
        Check.sentence("NOT_POSSIBLE for the reasons 1 to 4 (by force 1 to 3): 3 there is no free crew");
        for (int crews = 0; crews <= 4; crews++) {
            int out = crews;
            Check.Way allOut = x -> {
                Check.addBridges(x, 6, 2);
                x.days(1);
                x.set(0, out);
                for (int i = 0; i < out; i++) {
                    Check.due("send(" + i + ", 0) of " + out, x.send(i, 0), 0);
                }
            };
            Check.dueRefused("send(4, 0) with " + crews, Check.NOT_POSSIBLE, allOut, x -> x.send(4, 0));
            Check.dueRefused("send(4, 1) with " + crews, Check.NOT_POSSIBLE, allOut, x -> x.send(4, 1));
        }
    }

    private static void anIslandAlone() {
        Check.sentence("NOT_POSSIBLE for the reasons 1 to 4 (by force 1 to 3): 4 some island that is reached now");
        Check.Way one = x -> {
            Check.addBridges(x, 1, 2);
            x.days(1);
        };
        Check.dueRefused("send(0, 0) that leaves an island alone", Check.NOT_POSSIBLE, one, x -> x.send(0, 0));
        CoatedBridges x = Check.after(one);
        Check.due("send(0, 1) that leaves an island alone", x.send(0, 1), 2);
        Check.due("count(3)", x.count(3), 1);
        Check.due("bridgeOf(0, 4)", x.bridgeOf(0, 4), 1);
        CoatedBridges y = Check.after(one);
        y.bridge(1, 0, 1);
        Check.due("send(0, 0) with another way", y.send(0, 0), 0);
        Check.due("count(3)", y.count(3), 3);
        CoatedBridges z = Check.after(one);
        z.bridge(1, 0, 1);
        Check.due("send(0, 1) with another way", z.send(0, 1), 0);
    }

    private static void setOfTheLost() {
        Check.sentence("Returns the islands that are reached no more by that, as a set");
        CoatedBridges x = Check.withIslands(4);
        x.bridge(0, 1, 1);
        x.bridge(1, 2, 1);
        x.bridge(2, 3, 1);
        x.bridge(4, 3, 1);
        x.set(0, 4);
        x.days(1);
        Check.due("send(2, 1)", x.send(2, 1), 24);
        Check.due("send(3, 0) between islands that are alone", x.send(3, 0), 0);
        Check.due("send(0, 0)", x.send(0, 0), Check.NOT_POSSIBLE);
        Check.due("send(0, 1)", x.send(0, 1), 6);
        CoatedBridges y = Check.withIslands(7);
        for (int i = 7; i > 0; i--) {
            y.bridge(i, i - 1, 1);
        }
        y.days(1);
        Check.due("send(6, 1) that leaves all alone", y.send(6, 1), 254);
    }

    private static void theLastBridge() {
        Check.sentence("bridge: number of the bridge");
        CoatedBridges x = Check.withBridges(14, 1);
        x.days(1);
        Check.due("send(13, 0)", x.send(13, 0), 0);
        Check.due("count(5)", x.count(5), 8192);
    }

    private static void rustedLosesNone() {
        Check.sentence("Returns the islands that are reached no more by that, as a set");
        CoatedBridges x = Check.withBridges(1, 9);
        x.days(12);
        Check.due("bridgeOf(0, 4)", x.bridgeOf(0, 4), 2);
        Check.due("send(0, 0) to a rusted one", x.send(0, 0), 0);
        Check.due("bridgeOf(0, 4)", x.bridgeOf(0, 4), 1);
    }

    private static void whatItCounts() {
        Check.sentence("A crew can be sent to a bridge, that is painted then");
        CoatedBridges x = new CoatedBridges();
        Check.write(x, "i5;b0,1,2;b0,1,2;d1;");
        Check.due("play()", x.play(), 4);
        Check.due("send(0, 0)", x.send(0, 0), 0);
        Check.due("count(18)", x.count(18), 2);
        Check.due("bridgeOf(0, 4)", x.bridgeOf(0, 4), 1);
        Check.due("bridgeOf(0, 3)", x.bridgeOf(0, 3), 98);
        Check.due("bridgeOf(0, 5)", x.bridgeOf(0, 5), 1);
        Check.due("bridgeOf(0, 6)", x.bridgeOf(0, 6), 0);
        Check.due("bridgeOf(1, 5)", x.bridgeOf(1, 5), 0);
        Check.due("count(10)", x.count(10), 0);
        Check.due("count(13)", x.count(13), 212);
    }

    private static void fewerCrewsThanAreOut() {
        Check.sentence("With fewer crews those that are on bridges stay until they leave.");
        CoatedBridges x = Check.withBridges(3, 9);
        x.days(10);
        x.set(0, 2);
        x.send(0, 0);
        x.send(1, 0);
        x.set(0, 1);
        Check.due("count(10)", x.count(10), 0);
        Check.due("send(2, 1)", x.send(2, 1), Check.NOT_POSSIBLE);
        Check.due("count(5)", x.count(5), 3);
        x.recall(0);
        Check.due("count(10)", x.count(10), 0);
        Check.due("send(2, 1)", x.send(2, 1), Check.NOT_POSSIBLE);
        x.recall(1);
        Check.due("count(10)", x.count(10), 1);
        Check.due("send(2, 1)", x.send(2, 1), 0);
    }
}
