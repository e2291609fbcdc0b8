public final class Promise15RustsInTest {
    public static void main(String[] args) {
        int[] days = {0, 100, 50, 34, 25, 20, 17, 15, 13, 12};
        for (int wear = 1; wear <= 9; wear++) {
            CoatedBridges x = Check.withBridges(1, wear);
            Check.due("rustsIn(0) with the wear " + wear, x.rustsIn(0), days[wear]);
            x.days(days[wear] - 1);
            Check.due("rustsIn(0) a day ahead", x.rustsIn(0), 1);
            Check.due("bridgeOf(0, 4) a day ahead", x.bridgeOf(0, 4), 0);
            x.days(1);
            Check.due("rustsIn(0) of a rusted one", x.rustsIn(0), 0);
            Check.due("bridgeOf(0, 4)", x.bridgeOf(0, 4), 2);
        }
        crewsDoNotGo();
        wrongOnes();
        Check.end();
    }

    private static void crewsDoNotGo() {
        CoatedBridges x = Check.withBridges(2, 9);
        x.set(6, 1);
        x.set(7, 99);
        Check.due("rustsIn(0) though a crew would go", x.rustsIn(0), 12);
        Check.due("rustsIn(1) though a crew would go", x.rustsIn(1), 12);
    }

    private static void wrongOnes() {
        CoatedBridges x = Check.withBridges(2, 9);
        Check.due("rustsIn(-1)", x.rustsIn(-1), Check.INVALID);
        Check.due("rustsIn(2)", x.rustsIn(2), Check.INVALID);
        Check.due("rustsIn(MAX)", x.rustsIn(Integer.MAX_VALUE), Check.INVALID);
        x.days(12);
        x.send(0, 0);
        Check.due("rustsIn(0) of a painted one with the coat 0", x.rustsIn(0), Check.NOT_POSSIBLE);
        x.recall(0);
        Check.due("rustsIn(0) when the crew is back", x.rustsIn(0), 0);
    }
}
