/** "When a day ends, this is done in this order": each of the five points with its ends. */
public final class TermsDayTest {
    public static void main(String[] args) {
        theFirstDay();
        coinsForPaint();
        paintByTheNumbers();
        coatUpToAHundred();
        theCrewLeaves();
        openAheadOfPaint();
        coatDownToNothing();
        paintedOnesWearNot();
        reachedIslandsWaitNot();
        rustedOnThisDay();
        ferriesOrNot();
        theFare();
        ferriesByTheNumbers();
        paintAheadOfFerries();
        borneWaits();
        ferriedOnesDoNotComplain();
        theMainlandWaitsNot();
        coinsOfADay();
        theBookOfDays();
        crewsGoOrNot();
        asLongAsBestTells();
        noneGoesWithFewerCrews();
        crewsGoLast();
        Check.end();
    }

    private static void dueBridge(CoatedBridges x, int bridge, int coat, int condition) {
        Check.due("bridgeOf(" + bridge + ", 3)", x.bridgeOf(bridge, 3), coat);
        Check.due("bridgeOf(" + bridge + ", 4)", x.bridgeOf(bridge, 4), condition);
    }

    private static void dueWaits(CoatedBridges x, int... due) {
        for (int i = 0; i < due.length; i++) {
            Check.due("islandOf(" + i + ", 1)", x.islandOf(i, 1), due[i]);
        }
    }

    private static void theFirstDay() {
        Check.sentence("Days are counted from 0; there is a day of now, 0 at first.");
        CoatedBridges x = Check.withIslands(1);
        x.set(4, 0);
        Check.due("count(0)", x.count(0), 0);
        x.days(1);
        Check.due("count(0)", x.count(0), 1);
        Check.due("book(0, 0)", x.book(0, 0), 0);
    }

    /** Two bridges of the coat 55, a crew on the first, and so many coins in the purse. */
    private static CoatedBridges painting(int coins) {
        CoatedBridges x = Check.withBridges(2, 9);
        x.days(5);
        x.island(60);
        x.set(5, 0);
        x.set(3, 1);
        x.set(1, 1);
        x.send(0, 0);
        x.set(2, 40);
        x.days(2);
        x.set(2, 60);
        x.set(3, 0);
        Check.due("count(13)", x.count(13), 60);
        if (coins > 60) {
            x.pay(coins - 60);
        }
        return x;
    }

    private static void coinsForPaint() {
        Check.sentence("if the purse has setting 2 coins or more, these are paid for paint, and its coat is setting 1 more");
        CoatedBridges x = painting(60);
        dueBridge(x, 0, 57, 1);
        x.days(1);
        dueBridge(x, 0, 58, 1);
        Check.due("count(13) of 60 coins for 60", x.count(13), 0);
        Check.due("count(14)", x.count(14), 140);
        Check.due("bridgeOf(0, 7)", x.bridgeOf(0, 7), 140);
        x.days(1);
        dueBridge(x, 0, 58, 1);
        CoatedBridges y = painting(61);
        y.days(1);
        dueBridge(y, 0, 58, 1);
        Check.due("count(13) of 61 coins for 60", y.count(13), 1);
        CoatedBridges z = painting(60);
        z.set(2, 61);
        z.days(1);
        dueBridge(z, 0, 57, 1);
        Check.due("count(13) of 60 coins for 61", z.count(13), 60);
        Check.due("bridgeOf(0, 6) of a day without paint", z.bridgeOf(0, 6), 3);
        z.set(2, 59);
        z.days(1);
        dueBridge(z, 0, 58, 1);
        Check.due("count(13) of 60 coins for 59", z.count(13), 1);
        z.set(2, 1);
        z.days(1);
        dueBridge(z, 0, 59, 1);
        z.set(2, 0);
        z.days(1);
        dueBridge(z, 0, 60, 1);
        Check.due("count(13)", z.count(13), 0);
    }

    private static void paintByTheNumbers() {
        Check.sentence("Each painted bridge, by the numbers");
        for (int coins : new int[] {6, 7, 13, 14, 20, 21, 22}) {
            CoatedBridges x = Check.withBridges(4, 9);
            Check.emptyThePurse(x);
            x.set(0, 3);
            x.set(1, 1);
            x.set(2, 7);
            x.send(3, 0);
            x.send(2, 0);
            x.send(1, 0);
            x.pay(coins);
            x.days(1);
            for (int bridge = 1; bridge <= 3; bridge++) {
                int paid = coins / 7 >= bridge ? 1 : 0;
                Check.due("bridgeOf(" + bridge + ", 3) for " + coins, x.bridgeOf(bridge, 3), 64 + paid);
                Check.due("bridgeOf(" + bridge + ", 7) for " + coins, x.bridgeOf(bridge, 7), 7 * paid);
            }
            Check.due("count(13) of " + coins, x.count(13), coins - 7 * (coins / 7));
        }
    }

    private static void coatUpToAHundred() {
        Check.sentence("its coat is setting 1 more, up to 100; at 100 the crew leaves it, and it is open");
        int[] more = {1, 43, 44, 45, 46, 99, 100};
        int[] coats = {56, 98, 99, 100, 100, 100, 100};
        for (int i = 0; i < more.length; i++) {
            CoatedBridges x = Check.withBridges(2, 9);
            x.days(5);
            x.send(0, 0);
            x.set(1, more[i]);
            x.days(1);
            dueBridge(x, 0, coats[i], coats[i] < 100 ? 1 : 0);
        }
        CoatedBridges x = Check.withBridges(1, 9);
        x.days(12);
        x.send(0, 0);
        x.set(1, 100);
        x.days(1);
        dueBridge(x, 0, 100, 0);
        CoatedBridges y = Check.withBridges(1, 9);
        y.days(12);
        y.send(0, 0);
        y.set(1, 99);
        y.days(1);
        dueBridge(y, 0, 99, 1);
    }

    private static void theCrewLeaves() {
        Check.sentence("at 100 the crew leaves it, and it is open");
        CoatedBridges x = Check.withBridges(2, 9);
        x.days(5);
        x.send(0, 0);
        x.days(1);
        Check.due("count(10)", x.count(10), 0);
        dueBridge(x, 0, 85, 1);
        x.days(1);
        Check.due("count(10)", x.count(10), 1);
        dueBridge(x, 0, 100, 0);
        Check.due("count(14)", x.count(14), 20);
        x.days(1);
        Check.due("count(14) of an open one", x.count(14), 20);
        Check.due("send(1, 0)", x.send(1, 0), 0);
    }

    private static void openAheadOfPaint() {
        Check.sentence("Each bridge that was open ahead of 1. loses its wear from its coat");
        CoatedBridges x = Check.withBridges(2, 9);
        x.days(1);
        x.send(0, 0);
        x.days(1);
        dueBridge(x, 0, 100, 0);
        dueBridge(x, 1, 82, 0);
        x.days(1);
        dueBridge(x, 0, 91, 0);
        dueBridge(x, 1, 73, 0);
        x.send(0, 0);
        x.recall(0);
        x.days(1);
        dueBridge(x, 0, 82, 0);
    }

    private static void coatDownToNothing() {
        Check.sentence("loses its wear from its coat, down to 0; at 0 it is rusted");
        CoatedBridges x = Check.withIslands(1);
        for (int wear = 1; wear <= 9; wear++) {
            x.bridge(0, 1, wear);
        }
        for (int day = 1; day <= 34; day++) {
            x.days(1);
            for (int wear = 1; wear <= 9 && day >= 11 && day <= 13; wear++) {
                int coat = Math.max(0, 100 - wear * day);
                dueBridge(x, wear - 1, coat, coat > 0 ? 0 : 2);
            }
            int coat = Math.max(0, 100 - 5 * day);
            dueBridge(x, 4, coat, coat > 0 ? 0 : 2);
            coat = Math.max(0, 100 - 9 * day);
            dueBridge(x, 8, coat, coat > 0 ? 0 : 2);
        }
        dueBridge(x, 2, 0, 2);
        dueBridge(x, 1, 32, 0);
    }

    private static void paintedOnesWearNot() {
        Check.sentence("Each bridge that was open ahead of 1. loses its wear");
        CoatedBridges x = Check.withBridges(2, 9);
        x.days(5);
        x.send(0, 0);
        x.set(5, 0);
        x.set(2, 99);
        x.set(1, 1);
        x.days(2);
        dueBridge(x, 0, 57, 1);
        x.days(9);
        dueBridge(x, 0, 57, 1);
        Check.due("count(13)", x.count(13), 62);
    }

    private static void reachedIslandsWaitNot() {
        Check.sentence("if it is reached, its wait is 0");
        CoatedBridges x = Check.withIslands(2);
        x.days(3);
        dueWaits(x, 0, 3, 3);
        x.bridge(0, 1, 9);
        x.bridge(0, 2, 9);
        dueWaits(x, 0, 3, 3);
        x.days(1);
        dueWaits(x, 0, 0, 0);
        x.days(4);
        x.send(0, 1);
        x.days(1);
        dueWaits(x, 0, 1, 0);
        x.days(1);
        Check.due("bridgeOf(0, 4) of one that opened on this day", x.bridgeOf(0, 4), 0);
        dueWaits(x, 0, 0, 0);
    }

    private static void rustedOnThisDay() {
        Check.sentence("If it is alone .. Otherwise its wait is 1 more");
        CoatedBridges x = Check.withBridges(1, 9);
        x.days(11);
        dueWaits(x, 0, 0);
        x.days(1);
        dueWaits(x, 0, 1);
        x.days(1);
        dueWaits(x, 0, 2);
    }

    private static void ferriesOrNot() {
        Check.sentence("If it is alone, and setting 3 is 1, and the purse has its fare or more");
        CoatedBridges x = Check.withIslands(2);
        x.bridge(0, 2, 9);
        x.days(1);
        dueWaits(x, 0, 1, 0);
        Check.due("count(15) without ferries", x.count(15), 0);
        x.set(3, 1);
        x.days(1);
        dueWaits(x, 0, 0, 0);
        Check.due("count(15)", x.count(15), 5);
        Check.due("islandOf(1, 5)", x.islandOf(1, 5), 1);
        Check.due("islandOf(2, 5) of one that is reached", x.islandOf(2, 5), 0);
        x.set(3, 0);
        x.days(1);
        dueWaits(x, 0, 1, 0);
        Check.due("count(15)", x.count(15), 5);
    }

    private static void theFare() {
        Check.sentence("the purse has its fare or more, this is paid for the ferry, and its wait is 0");
        int[] fares = {0, 1, 49, 50, 51, 99};
        for (int fare : fares) {
            CoatedBridges x = new CoatedBridges();
            Check.emptyThePurse(x);
            x.bridge(0, 1, 1);
            x.island(fare);
            x.days(1);
            x.pay(50);
            x.set(3, 1);
            x.days(1);
            boolean paid = fare <= 50;
            dueWaits(x, 0, 0, paid ? 0 : 2);
            Check.due("islandOf(2, 5) of the fare " + fare, x.islandOf(2, 5), paid ? 1 : 0);
            Check.due("count(13) of the fare " + fare, x.count(13), paid ? 50 - fare : 50);
            Check.due("count(15) of the fare " + fare, x.count(15), paid ? 200 + fare : 200);
        }
    }

    private static void ferriesByTheNumbers() {
        Check.sentence("Each island but the mainland, by the numbers");
        CoatedBridges x = new CoatedBridges();
        Check.emptyThePurse(x);
        x.bridge(0, 1, 1);
        x.island(30);
        x.island(20);
        x.island(20);
        x.set(3, 1);
        x.pay(50);
        x.days(1);
        dueWaits(x, 0, 0, 0, 0, 1);
        Check.due("count(13)", x.count(13), 0);
        x.pay(45);
        x.days(1);
        dueWaits(x, 0, 0, 0, 1, 2);
        Check.due("count(13)", x.count(13), 15);
        x.pay(14);
        x.days(1);
        dueWaits(x, 0, 0, 1, 0, 3);
        Check.due("count(13)", x.count(13), 9);
    }

    private static void paintAheadOfFerries() {
        Check.sentence("When a day ends, this is done in this order: 1. .. paint 3. .. ferries");
        CoatedBridges x = Check.withBridges(2, 9);
        Check.emptyThePurse(x);
        x.set(3, 1);
        x.set(2, 50);
        x.send(0, 0);
        x.pay(99);
        x.days(1);
        Check.due("bridgeOf(0, 7)", x.bridgeOf(0, 7), 50);
        Check.due("islandOf(2, 5)", x.islandOf(2, 5), 4);
        Check.due("count(13)", x.count(13), 49);
    }

    private static void borneWaits() {
        Check.sentence("Otherwise its wait is 1 more; if it is above setting 4 then, there is a complaint of the island");
        int[] borne = {0, 1, 3, 29, 30};
        for (int days : borne) {
            CoatedBridges x = Check.withIslands(1);
            x.set(4, days);
            for (int i = 1; i <= days; i++) {
                Check.due("days(1), the wait " + i + " of " + days, x.days(1), 0);
            }
            Check.due("islandOf(1, 3)", x.islandOf(1, 3), 0);
            Check.due("days(1), a wait above " + days, x.days(1), 1);
            Check.due("islandOf(1, 3)", x.islandOf(1, 3), 1);
            Check.due("islandOf(1, 1)", x.islandOf(1, 1), days + 1);
            Check.due("days(1), a wait far above " + days, x.days(1), 1);
            Check.due("islandOf(1, 3)", x.islandOf(1, 3), 2);
        }
    }

    private static void ferriedOnesDoNotComplain() {
        Check.sentence("this is paid for the ferry, and its wait is 0");
        CoatedBridges x = Check.withIslands(1);
        x.set(4, 0);
        Check.due("days(1)", x.days(1), 1);
        x.set(3, 1);
        Check.due("days(1) with a ferry", x.days(1), 0);
        Check.due("islandOf(1, 3)", x.islandOf(1, 3), 1);
        Check.due("islandOf(1, 4)", x.islandOf(1, 4), 1);
    }

    private static void theMainlandWaitsNot() {
        Check.sentence("Each island but the mainland");
        CoatedBridges x = new CoatedBridges();
        x.set(3, 1);
        x.set(4, 0);
        Check.due("days(99)", x.days(99), 0);
        int[] due = {1, 0, 0, 0, 0, 0, 0, 0};
        for (int what = 0; what < due.length; what++) {
            Check.due("islandOf(0, " + what + ")", x.islandOf(0, what), due[what]);
        }
    }

    private static void coinsOfADay() {
        Check.sentence("Now is 1 more, and the purse has setting 5 coins more");
        int[] coins = {0, 1, 98, 99};
        for (int daily : coins) {
            CoatedBridges x = new CoatedBridges();
            x.set(5, daily);
            x.days(1);
            Check.due("count(0)", x.count(0), 1);
            Check.due("count(13) of " + daily, x.count(13), 200 + daily);
            Check.due("count(16) of " + daily, x.count(16), daily);
        }
        CoatedBridges x = new CoatedBridges();
        Check.emptyThePurse(x);
        x.set(5, 50);
        x.set(3, 1);
        x.days(1);
        Check.due("islandOf(1, 5), as the coins come behind the ferries", x.islandOf(1, 5), 4);
        Check.due("count(13)", x.count(13), 50);
        x.days(1);
        Check.due("islandOf(1, 5) on the day behind", x.islandOf(1, 5), 5);
        Check.due("count(13)", x.count(13), 50);
    }

    private static void theBookOfDays() {
        Check.sentence("If there were complaints on this day, the day that ended and how many they were come into the book.");
        CoatedBridges x = Check.withIslands(3);
        x.set(4, 1);
        x.days(1);
        Check.due("count(17) of a day without complaints", x.count(17), 0);
        x.days(1);
        Check.due("count(17)", x.count(17), 1);
        Check.due("book(0, 0)", x.book(0, 0), 1);
        Check.due("book(0, 1)", x.book(0, 1), 3);
    }

    /** Bridges of the coat 40 between the mainland and the island 1. */
    private static CoatedBridges at40(int bridges, int crews) {
        CoatedBridges x = Check.withBridges(bridges, 6);
        x.set(0, crews);
        x.days(9);
        x.set(6, 1);
        x.days(1);
        Check.due("bridgeOf(0, 3)", x.bridgeOf(0, 3), 40);
        return x;
    }

    private static void crewsGoOrNot() {
        Check.sentence("If setting 6 is 1, crews go by themselves");
        CoatedBridges x = Check.withBridges(2, 6);
        x.days(12);
        Check.due("count(5) with the setting 6 at 0", x.count(5), 0);
        x.set(6, 1);
        Check.due("count(5) ahead of the day's end", x.count(5), 0);
        x.days(1);
        Check.due("count(5) with the setting 6 at 1", x.count(5), 1);
        Check.due("bridgeOf(0, 5)", x.bridgeOf(0, 5), 1);
        CoatedBridges y = Check.withBridges(2, 6);
        y.set(6, 1);
        y.days(9);
        Check.due("count(5) of the coat 46", y.count(5), 0);
        y.days(1);
        Check.due("count(5) of the coat 40", y.count(5), 1);
    }

    private static void asLongAsBestTells() {
        Check.sentence("as long as best() tells a bridge, a crew is sent to it");
        for (int crews = 0; crews <= 4; crews++) {
            CoatedBridges x = at40(6, crews);
            Check.due("count(5) of six with " + crews, x.count(5), (1 << crews) - 1);
            Check.due("count(10)", x.count(10), 0);
            Check.due("best()", x.best(), Check.NOT_FOUND);
            CoatedBridges y = at40(3, crews);
            Check.due("count(5) of three with " + crews, y.count(5), (1 << Math.min(2, crews)) - 1);
            Check.due("count(3)", y.count(3), 3);
            Check.due("best()", y.best(), Check.NOT_FOUND);
        }
        CoatedBridges one = at40(1, 4);
        Check.due("count(5) of one", one.count(5), 0);
    }

    private static void noneGoesWithFewerCrews() {
        Check.sentence("With fewer crews those that are on bridges stay until they leave.");
        CoatedBridges x = Check.withBridges(4, 6);
        x.set(1, 1);
        x.set(0, 2);
        x.days(10);
        x.send(0, 0);
        x.send(1, 0);
        x.set(0, 1);
        x.set(6, 1);
        x.days(1);
        Check.due("count(5) with two out and one crew", x.count(5), 3);
        x.recall(0);
        x.days(1);
        Check.due("count(5) with one out and one crew", x.count(5), 2);
        x.recall(1);
        x.days(1);
        Check.due("count(5) with none out and one crew", x.count(5), 4);
    }

    private static void crewsGoLast() {
        Check.sentence("this is done in this order: .. 2. .. at 0 it is rusted .. 5. .. crews go by themselves");
        CoatedBridges x = Check.withBridges(2, 9);
        x.set(7, 0);
        x.set(6, 1);
        x.days(11);
        Check.due("count(5) of the coat 1", x.count(5), 0);
        x.days(1);
        Check.due("count(5) of those that rusted on this day", x.count(5), 1);
        Check.due("count(6)", x.count(6), 2);
        Check.due("bridgeOf(0, 6) as it ended", x.bridgeOf(0, 6), 1);
        Check.due("bridgeOf(0, 7)", x.bridgeOf(0, 7), 0);
        Check.due("islandOf(1, 1)", x.islandOf(1, 1), 1);

        CoatedBridges y = Check.withBridges(2, 9);
        y.set(6, 1);
        y.set(7, 91);
        y.days(1);
        dueBridge(y, 0, 91, 1);
        Check.due("bridgeOf(0, 6)", y.bridgeOf(0, 6), 0);
        y.days(1);
        dueBridge(y, 0, 100, 0);
        dueBridge(y, 1, 82, 1);
    }
}
