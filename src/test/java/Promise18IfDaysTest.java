public final class Promise18IfDaysTest {
    public static void main(String[] args) {
        manyOutOfRange();
        manyAtTheEnds();
        howMany();
        asDaysDo();
        nothingChanges();
        crewsGoInIt();
        behindTheLastDay();
        Check.end();
    }

    private static void manyOutOfRange() {
        Check.sentence("INVALID_ARGUMENT if many is out of range");
        for (int many : new int[] {0, 100, -1, Integer.MIN_VALUE, Integer.MAX_VALUE}) {
            Check.dueUnchanged("ifDays(" + many + ")", Check.INVALID, Check::busy, x -> x.ifDays(many));
        }
    }

    private static void manyAtTheEnds() {
        Check.sentence("many: 1 to 99");
        CoatedBridges x = Check.withIslands(7);
        x.set(4, 0);
        Check.due("ifDays(1)", x.ifDays(1), 7);
        Check.due("ifDays(2)", x.ifDays(2), 14);
        Check.due("ifDays(98)", x.ifDays(98), 98 * 7);
        Check.due("ifDays(99)", x.ifDays(99), 99 * 7);
        Check.due("ifDays(99) of the mainland", new CoatedBridges().ifDays(99), 0);
    }

    private static void howMany() {
        Check.sentence("Tells how many complaints there would be in days from now on");
        CoatedBridges x = Check.withIslands(2);
        x.bridge(0, 1, 9);
        Check.due("ifDays(1)", x.ifDays(1), 0);
        Check.due("ifDays(3)", x.ifDays(3), 0);
        Check.due("ifDays(4)", x.ifDays(4), 1);
        Check.due("ifDays(14)", x.ifDays(14), 11);
        Check.due("ifDays(15)", x.ifDays(15), 13);
        Check.due("ifDays(99)", x.ifDays(99), 96 + 85);
        Check.due("days(15)", x.days(15), 13);
        Check.due("ifDays(1) of those from now on", x.ifDays(1), 2);
    }

    private static void asDaysDo() {
        Check.sentence("days that pass in it do all that is told of a day");
        for (int crewsGo = 0; crewsGo <= 1; crewsGo++) {
            for (int many = 1; many <= 99; many += 7) {
                CoatedBridges x = Check.after(Check::busy);
                x.set(6, crewsGo);
                x.set(5, 1);
                int told = x.ifDays(many);
                Check.due("days(" + many + ")", x.days(many), told);
            }
        }
    }

    private static void nothingChanges() {
        Check.sentence("Tells how many complaints there would be");
        Check.dueUnchanged("ifDays(99)", 96, x -> Check.addIslands(x, 1), x -> x.ifDays(99));
        Check.dueUnchanged("ifDays(1)", 0, Check::busy, x -> x.ifDays(1));
    }

    private static void crewsGoInIt() {
        Check.sentence("crews go by themselves in it, too, if setting 6 is 1");
        CoatedBridges x = Check.withBridges(2, 9);
        Check.due("ifDays(20)", x.ifDays(20), 6);
        x.set(6, 1);
        Check.due("ifDays(20) with crews that go", x.ifDays(20), 0);
    }

    private static void behindTheLastDay() {
        Check.sentence("Tells how many complaints there would be in days from now on");
        CoatedBridges x = Check.withIslands(1);
        x.set(4, 0);
        for (int i = 0; i < 101; i++) {
            x.days(99);
        }
        Check.due("count(0)", x.count(0), 9999);
        Check.due("ifDays(99)", x.ifDays(99), 99);
        Check.due("count(11)", x.count(11), 9999);
        Check.due("islandOf(1, 1)", x.islandOf(1, 1), 9999);
    }
}
