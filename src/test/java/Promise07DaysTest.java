public final class Promise07DaysTest {
    public static void main(String[] args) {
        manyAtTheEnds();
        manyOutOfRange();
        complaintsInThem();
        theLastDay();
        Check.sentence("A day");
        paintAheadOfWear();
        paintIsPaidByTheNumbers();
        coatStopsAtItsEnds();
        aloneIslandsWait();
        ferries();
        ferriesOfTheDayArePaidAheadOfItsCoins();
        crewsGoByThemselves();
        crewsGoBehindTheCoins();
        Check.end();
    }

    private static void manyAtTheEnds() {
        Check.sentence("many: 1 to 99");
        CoatedBridges x = new CoatedBridges();
        Check.due("days(1)", x.days(1), 0);
        Check.due("count(0)", x.count(0), 1);
        Check.due("days(99)", x.days(99), 0);
        Check.due("count(0)", x.count(0), 100);
        Check.due("days(98)", x.days(98), 0);
        Check.due("count(0)", x.count(0), 198);
        Check.due("count(13)", x.count(13), 200 + 198 * 12);
        Check.due("count(18)", x.count(18), 3);
    }

    private static void manyOutOfRange() {
        Check.sentence("INVALID_ARGUMENT if many is out of range");
        for (int many : new int[] {0, 100, -1, Integer.MIN_VALUE, Integer.MAX_VALUE}) {
            Check.dueRefused("days(" + many + ")", Check.INVALID, x -> { }, x -> x.days(many));
            Check.dueRefused("days(" + many + ") later", Check.INVALID, Check::busy, x -> x.days(many));
        }
    }

    private static void complaintsInThem() {
        Check.sentence("Returns how many complaints there are in them");
        CoatedBridges x = Check.withIslands(7);
        Check.due("days(3) that are borne", x.days(3), 0);
        Check.due("days(1)", x.days(1), 7);
        Check.due("days(99)", x.days(99), 99 * 7);
        Check.due("count(11)", x.count(11), 100 * 7);
    }

    /** An island with a bridge and one without, on the day 9900: 100 times 99 days. */
    private static void late(CoatedBridges x) {
        Check.addBridges(x, 1, 9);
        Check.write(x, "d99;d99;d99;d99;d99;d99;d99;d99;d99;d99;");
        for (int i = 1; i <= 10; i++) {
            Check.due("play()", x.play(), 10);
        }
        Check.due("count(0)", x.count(0), 9900);
    }

    private static void theLastDay() {
        Check.sentence("LIMIT_REACHED if now would be above 9999");
        CoatedBridges x = Check.after(Promise07DaysTest::late);
        Check.due("days(99) to the day 9999", x.days(99), 99);
        Check.due("count(0)", x.count(0), 9999);
        Check.due("days(1) to the day 10000", x.days(1), Check.LIMIT);
        Check.due("count(16)", x.count(16), 9999 * 12);

        CoatedBridges y = Check.after(Promise07DaysTest::late);
        Check.due("days(98) to the day 9998", y.days(98), 98);
        Check.due("days(2) to the day 10000", y.days(2), Check.LIMIT);
        Check.due("count(0)", y.count(0), 9998);
        Check.due("days(1) to the day 9999", y.days(1), 1);
        Check.due("book(0, 0)", y.book(0, 0), 9998);

        Check.Way last = z -> {
            late(z);
            z.days(50);
            z.days(49);
        };
        for (int many : new int[] {1, 2, 99}) {
            Check.dueRefused("days(" + many + ") of the day 9999", Check.LIMIT, last, z -> z.days(many));
        }
        Check.dueRefused("days(99) of the day 9901", Check.LIMIT, z -> {
            late(z);
            z.days(1);
        }, z -> z.days(99));

        Check.sentence("INVALID_ARGUMENT is returned rather than .. LIMIT_REACHED");
        for (int many : new int[] {0, 100, Integer.MAX_VALUE}) {
            Check.dueRefused("days(" + many + ") of the day 9999", Check.INVALID, last, z -> z.days(many));
        }
    }

    private static void paintAheadOfWear() {
        CoatedBridges x = Check.withBridges(2, 9);
        x.days(4);
        x.send(0, 0);
        x.days(1);
        Check.due("bridgeOf(0, 3)", x.bridgeOf(0, 3), 94);
        Check.due("bridgeOf(0, 6)", x.bridgeOf(0, 6), 1);
        x.days(1);
        Check.due("bridgeOf(0, 3) of one that opened on this day", x.bridgeOf(0, 3), 100);
        Check.due("bridgeOf(0, 4)", x.bridgeOf(0, 4), 0);
        Check.due("bridgeOf(0, 6)", x.bridgeOf(0, 6), 1);
        Check.due("bridgeOf(0, 7)", x.bridgeOf(0, 7), 20);
        x.days(1);
        Check.due("bridgeOf(0, 3)", x.bridgeOf(0, 3), 91);
    }

    private static void paintIsPaidByTheNumbers() {
        CoatedBridges x = Check.withBridges(3, 9);
        x.set(5, 0);
        x.set(0, 2);
        x.set(1, 1);
        x.set(2, 80);
        x.days(5);
        x.send(2, 0);
        x.send(1, 0);
        Check.due("bridgeOf(0, 4)", x.bridgeOf(0, 4), 0);
        x.days(1);
        Check.due("count(13)", x.count(13), 40);
        Check.due("bridgeOf(1, 3)", x.bridgeOf(1, 3), 56);
        Check.due("bridgeOf(2, 3)", x.bridgeOf(2, 3), 56);
        x.pay(40);
        x.days(1);
        Check.due("bridgeOf(1, 3) for the last 80 coins", x.bridgeOf(1, 3), 57);
        Check.due("bridgeOf(2, 3) without coins", x.bridgeOf(2, 3), 56);
        Check.due("bridgeOf(2, 4)", x.bridgeOf(2, 4), 1);
        Check.due("count(13)", x.count(13), 0);
        Check.due("count(14)", x.count(14), 240);
        x.pay(79);
        x.days(1);
        Check.due("bridgeOf(1, 3) with a coin too few", x.bridgeOf(1, 3), 57);
        x.set(2, 0);
        x.days(1);
        Check.due("bridgeOf(1, 3) for nothing", x.bridgeOf(1, 3), 58);
        Check.due("bridgeOf(2, 3) for nothing", x.bridgeOf(2, 3), 57);
    }

    private static void coatStopsAtItsEnds() {
        CoatedBridges x = Check.withBridges(2, 9);
        x.days(11);
        Check.due("bridgeOf(0, 3)", x.bridgeOf(0, 3), 1);
        Check.due("bridgeOf(0, 4)", x.bridgeOf(0, 4), 0);
        x.days(1);
        Check.due("bridgeOf(0, 3)", x.bridgeOf(0, 3), 0);
        Check.due("bridgeOf(0, 4)", x.bridgeOf(0, 4), 2);
        Check.due("bridgeOf(0, 6)", x.bridgeOf(0, 6), 1);
        x.days(5);
        Check.due("bridgeOf(0, 3)", x.bridgeOf(0, 3), 0);
        Check.due("bridgeOf(0, 6)", x.bridgeOf(0, 6), 6);
        x.set(1, 99);
        x.send(0, 0);
        x.days(1);
        Check.due("bridgeOf(0, 3)", x.bridgeOf(0, 3), 99);
        x.days(1);
        Check.due("bridgeOf(0, 3)", x.bridgeOf(0, 3), 100);
        Check.due("bridgeOf(0, 4)", x.bridgeOf(0, 4), 0);
        Check.due("bridgeOf(0, 6)", x.bridgeOf(0, 6), 7);
    }

    private static void aloneIslandsWait() {
        CoatedBridges x = Check.withIslands(2);
        Check.due("days(3)", x.days(3), 0);
        Check.due("islandOf(1, 1)", x.islandOf(1, 1), 3);
        Check.due("days(1)", x.days(1), 2);
        Check.due("islandOf(1, 3)", x.islandOf(1, 3), 1);
        Check.due("book(0, 0)", x.book(0, 0), 3);
        Check.due("book(0, 1)", x.book(0, 1), 2);
        x.bridge(0, 1, 1);
        Check.due("islandOf(1, 1) ahead of the day's end", x.islandOf(1, 1), 4);
        Check.due("days(2)", x.days(2), 2);
        Check.due("islandOf(1, 1)", x.islandOf(1, 1), 0);
        Check.due("islandOf(1, 4)", x.islandOf(1, 4), 4);
        Check.due("islandOf(2, 1)", x.islandOf(2, 1), 6);
        Check.due("islandOf(2, 3)", x.islandOf(2, 3), 3);
        x.set(4, 0);
        x.island(1);
        Check.due("days(1) of no borne wait", x.days(1), 2);
        x.set(4, 30);
        Check.due("days(23) of a long borne wait", x.days(23), 0);
        Check.due("days(1)", x.days(1), 1);
    }

    private static void ferries() {
        CoatedBridges x = new CoatedBridges();
        x.island(99);
        x.island(90);
        x.island(11);
        x.island(0);
        x.set(3, 1);
        x.set(5, 0);
        x.set(4, 0);
        Check.due("days(1)", x.days(1), 0);
        Check.due("count(13)", x.count(13), 0);
        Check.due("count(15)", x.count(15), 200);
        Check.due("days(1) without coins", x.days(1), 3);
        Check.due("islandOf(1, 1)", x.islandOf(1, 1), 1);
        Check.due("islandOf(4, 1)", x.islandOf(4, 1), 0);
        Check.due("islandOf(4, 5)", x.islandOf(4, 5), 2);
        x.pay(98);
        Check.due("days(1) with a coin too few for the first", x.days(1), 2);
        Check.due("islandOf(1, 5)", x.islandOf(1, 5), 1);
        Check.due("islandOf(2, 5)", x.islandOf(2, 5), 2);
        Check.due("islandOf(3, 5)", x.islandOf(3, 5), 1);
        Check.due("count(13)", x.count(13), 8);
        x.bridge(0, 4, 1);
        x.days(1);
        Check.due("islandOf(4, 5) of one that is reached", x.islandOf(4, 5), 3);
    }

    private static void ferriesOfTheDayArePaidAheadOfItsCoins() {
        CoatedBridges x = new CoatedBridges();
        x.island(99);
        x.set(3, 1);
        x.set(5, 99);
        x.days(2);
        Check.due("count(13)", x.count(13), 200);
        x.set(5, 0);
        x.days(2);
        Check.due("count(13)", x.count(13), 2);
        x.set(5, 99);
        x.days(1);
        Check.due("islandOf(1, 5)", x.islandOf(1, 5), 4);
        Check.due("islandOf(1, 1)", x.islandOf(1, 1), 1);
        Check.due("count(13)", x.count(13), 101);
    }

    private static void crewsGoByThemselves() {
        CoatedBridges x = Check.withBridges(3, 6);
        x.set(0, 4);
        x.days(9);
        Check.due("count(5) with the setting 6 at 0", x.count(5), 0);
        x.set(6, 1);
        Check.due("count(5) ahead of the day's end", x.count(5), 0);
        x.days(1);
        Check.due("bridgeOf(0, 3)", x.bridgeOf(0, 3), 40);
        Check.due("count(5)", x.count(5), 3);
        Check.due("bridgeOf(0, 5)", x.bridgeOf(0, 5), 1);
        Check.due("bridgeOf(0, 6)", x.bridgeOf(0, 6), 0);
        x.days(1);
        Check.due("bridgeOf(0, 3)", x.bridgeOf(0, 3), 70);
        Check.due("bridgeOf(2, 3)", x.bridgeOf(2, 3), 34);
        x.days(1);
        Check.due("count(5) when two crews are back", x.count(5), 4);
        allFourGoOnOneDay();
    }

    private static void allFourGoOnOneDay() {
        CoatedBridges x = Check.withBridges(6, 9);
        x.set(0, 4);
        x.set(6, 1);
        x.set(7, 99);
        x.days(1);
        Check.due("count(5) with six to go to", x.count(5), 15);
    }

    private static void crewsGoBehindTheCoins() {
        CoatedBridges x = Check.withBridges(2, 9);
        x.set(6, 1);
        x.set(7, 91);
        x.days(1);
        Check.due("bridgeOf(0, 4)", x.bridgeOf(0, 4), 1);
        Check.due("bridgeOf(0, 7)", x.bridgeOf(0, 7), 0);
        Check.due("bridgeOf(1, 4)", x.bridgeOf(1, 4), 0);
        x.days(1);
        Check.due("bridgeOf(0, 4)", x.bridgeOf(0, 4), 0);
        Check.due("bridgeOf(1, 4)", x.bridgeOf(1, 4), 1);
        Check.due("bridgeOf(1, 3)", x.bridgeOf(1, 3), 82);
        Check.due("count(13)", x.count(13), 214);
    }
}
