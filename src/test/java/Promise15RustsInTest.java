public final class Promise15RustsInTest {
    public static void main(String[] args) {
        wrongArguments();
        aPaintedOne();
        eachWear();
        coatsBesideTheWear();
        rustedNow();
        crewsDoNotGo();
        Check.end();
    }

    private static void wrongArguments() {
        Check.sentence("bridge: number of the bridge; INVALID_ARGUMENT");
        for (int bridge : new int[] {-1, 4, 13, 14, Integer.MIN_VALUE, Integer.MAX_VALUE}) {
            Check.dueUnchanged("rustsIn(" + bridge + ")", Check.INVALID, Check::busy, x -> x.rustsIn(bridge));
        }
        CoatedBridges x = Check.withBridges(14, 3);
        Check.due("rustsIn(13)", x.rustsIn(13), 34);
        Check.due("rustsIn(14)", x.rustsIn(14), Check.INVALID);
    }

    private static void aPaintedOne() {
        Check.sentence("NOT_POSSIBLE if it is painted");
        Check.dueUnchanged("rustsIn(1) of a painted one", Check.NOT_POSSIBLE, Check::busy, x -> x.rustsIn(1));
        CoatedBridges x = Check.withBridges(1, 9);
        x.days(11);
        x.send(0, 1);
        Check.due("rustsIn(0) of a painted one with the coat 1", x.rustsIn(0), Check.NOT_POSSIBLE);
        x.recall(0);
        Check.due("rustsIn(0) when the crew is back", x.rustsIn(0), 1);
        x.days(1);
        x.send(0, 0);
        Check.due("rustsIn(0) of a painted one with the coat 0", x.rustsIn(0), Check.NOT_POSSIBLE);
        x.recall(0);
        Check.due("rustsIn(0) when the crew is back", x.rustsIn(0), 0);
    }

    private static void eachWear() {
        Check.sentence("Tells in how many days a bridge is rusted");
        int[] days = {0, 100, 50, 34, 25, 20, 17, 15, 13, 12};
        for (int wear = 1; wear <= 9; wear++) {
            CoatedBridges x = Check.withBridges(1, wear);
            Check.due("rustsIn(0) with the wear " + wear, x.rustsIn(0), days[wear]);
            for (int left = days[wear] - 1; left > 0; left--) {
                x.days(1);
                Check.due("rustsIn(0) with the wear " + wear, x.rustsIn(0), left);
            }
            Check.due("bridgeOf(0, 4) a day ahead", x.bridgeOf(0, 4), 0);
            x.days(1);
            Check.due("rustsIn(0) of a rusted one", x.rustsIn(0), 0);
            Check.due("bridgeOf(0, 4)", x.bridgeOf(0, 4), 2);
        }
    }

    /** The coats 8, 9 and 10 with the wear 9: painted by 1 from the coat 7 on. */
    private static void coatsBesideTheWear() {
        Check.sentence("Tells in how many days a bridge is rusted");
        CoatedBridges x = Check.withBridges(1, 9);
        x.days(12);
        x.set(1, 7);
        x.send(0, 0);
        x.days(1);
        x.set(1, 1);
        int[] days = {1, 1, 1, 2, 2};
        for (int i = 0; i < days.length; i++) {
            x.recall(0);
            Check.due("bridgeOf(0, 3)", x.bridgeOf(0, 3), 7 + i);
            Check.due("rustsIn(0) of the coat " + (7 + i), x.rustsIn(0), days[i]);
            x.send(0, 1);
            x.days(1);
        }
    }

    private static void rustedNow() {
        Check.sentence("Returns how many, 0 if it is now");
        Check.dueUnchanged("rustsIn(0) of a rusted one", 0, Check::busy, x -> x.rustsIn(0));
        Check.dueUnchanged("rustsIn(3) of an open one", 13, Check::busy, x -> x.rustsIn(3));
    }

    private static void crewsDoNotGo() {
        Check.sentence("if nothing else is done (and crews do not go by themselves)");
        CoatedBridges x = Check.withBridges(2, 9);
        x.set(6, 1);
        x.set(7, 99);
        Check.due("rustsIn(0) though a crew would go", x.rustsIn(0), 12);
        Check.due("rustsIn(1) though a crew would go", x.rustsIn(1), 12);
        x.days(1);
        Check.due("rustsIn(0) when the crew went", x.rustsIn(0), Check.NOT_POSSIBLE);
        Check.due("rustsIn(1) though a crew would go next", x.rustsIn(1), 11);
    }
}
