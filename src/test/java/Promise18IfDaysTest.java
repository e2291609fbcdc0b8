public final class Promise18IfDaysTest {
    public static void main(String[] args) {
        CoatedBridges x = Check.withIslands(2);
        int[] outOfRange = {0, 100, -1, Integer.MIN_VALUE, Integer.MAX_VALUE};
        for (int many : outOfRange) {
            Check.due("ifDays(" + many + ")", x.ifDays(many), Check.INVALID);
        }
        x.bridge(0, 1, 9);
        int changes = x.count(18);
        Check.due("ifDays(1)", x.ifDays(1), 0);
        Check.due("ifDays(3)", x.ifDays(3), 0);
        Check.due("ifDays(4)", x.ifDays(4), 1);
        Check.due("ifDays(14)", x.ifDays(14), 11);
        Check.due("ifDays(15)", x.ifDays(15), 13);
        Check.due("ifDays(99)", x.ifDays(99), 96 + 85);
        Check.due("count(0) afterwards", x.count(0), 0);
        Check.due("count(11) afterwards", x.count(11), 0);
        Check.due("count(13) afterwards", x.count(13), 200);
        Check.due("count(17) afterwards", x.count(17), 0);
        Check.due("count(18) afterwards", x.count(18), changes);
        Check.due("bridgeOf(0, 3) afterwards", x.bridgeOf(0, 3), 100);
        Check.due("islandOf(2, 1) afterwards", x.islandOf(2, 1), 0);
        Check.due("days(15)", x.days(15), 13);
        crewsGoInIt();
        behindTheLastDay();
        Check.end();
    }

    private static void crewsGoInIt() {
        CoatedBridges x = Check.withBridges(2, 9);
        Check.due("ifDays(20)", x.ifDays(20), 6);
        x.set(6, 1);
        Check.due("ifDays(20) with crews that go", x.ifDays(20), 0);
    }

    private static void behindTheLastDay() {
        CoatedBridges x = Check.withIslands(1);
        x.set(4, 0);
        for (int i = 0; i < 101; i++) {
            x.days(99);
        }
        Check.due("count(0)", x.count(0), 9999);
        Check.due("ifDays(99)", x.ifDays(99), 99);
        Check.due("count(11)", x.count(11), 9999);
        Check.due("islandOf(1, 1)", x.islandOf(1, 1), 9999);
    }
}
