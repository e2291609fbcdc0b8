public final class Promise21UndoTest {
    public static void main(String[] args) {
        CoatedBridges x = new CoatedBridges();
        Check.due("undo() of nothing", x.undo(), Check.NOT_POSSIBLE);
        x.island(4);
        x.bridge(0, 1, 9);
        x.days(12);
        x.send(0, 0);
        x.recall(0);
        Check.due("count(18)", x.count(18), 4);
        x.set(3, 1);
        x.pay(5);
        Check.due("count(18) of more changes", x.count(18), 4);
        x.type('d');
        Check.due("undo() of pay", x.undo(), 3);
        Check.due("count(13)", x.count(13), 344);
        Check.due("undo() of set", x.undo(), 2);
        Check.due("count(23)", x.count(23), 0);
        Check.due("undo() of recall", x.undo(), 1);
        Check.due("bridgeOf(0, 4)", x.bridgeOf(0, 4), 1);
        Check.due("undo() of send", x.undo(), 0);
        Check.due("bridgeOf(0, 4)", x.bridgeOf(0, 4), 2);
        Check.due("bridgeOf(0, 5)", x.bridgeOf(0, 5), 0);
        Check.due("undo() of what was dropped", x.undo(), Check.NOT_POSSIBLE);
        Check.due("count(0)", x.count(0), 12);
        Check.due("count(19), which stays", x.count(19), 1);
        daysAndPlay();
        errorsAreNoChanges();
        changesBehindAnUndo();
        Check.end();
    }

    private static void daysAndPlay() {
        CoatedBridges x = Check.withIslands(2);
        x.days(9);
        Check.due("undo() of days", x.undo(), 2);
        int[] what = {0, 11, 12, 13, 16, 17};
        int[] due = {0, 0, 0, 200, 0, 0};
        for (int i = 0; i < what.length; i++) {
            Check.due("count(" + what[i] + ")", x.count(what[i]), due[i]);
        }
        Check.due("islandOf(1, 1)", x.islandOf(1, 1), 0);
        Check.due("islandOf(1, 4)", x.islandOf(1, 4), 0);
        Check.write(x, "b0,1,9;d30;i3;");
        Check.due("play()", x.play(), 3);
        Check.due("undo() of play", x.undo(), 2);
        Check.due("count(0)", x.count(0), 0);
        Check.due("count(1)", x.count(1), 3);
        Check.due("count(2)", x.count(2), 0);
        Check.due("count(19)", x.count(19), 14);
    }

    private static void errorsAreNoChanges() {
        CoatedBridges x = new CoatedBridges();
        x.island(-1);
        x.bridge(0, 1, 1);
        x.send(0, 0);
        x.recall(0);
        x.pay(0);
        x.days(0);
        x.set(0, 9);
        x.type('x');
        x.play();
        x.best();
        x.aloneIn();
        x.ifDays(3);
        Check.due("count(18)", x.count(18), 0);
        Check.due("undo()", x.undo(), Check.NOT_POSSIBLE);
    }

    private static void changesBehindAnUndo() {
        CoatedBridges x = new CoatedBridges();
        for (int coins = 1; coins <= 6; coins++) {
            x.pay(coins);
        }
        Check.due("undo()", x.undo(), 3);
        Check.due("undo()", x.undo(), 2);
        x.pay(100);
        Check.due("count(18)", x.count(18), 3);
        Check.due("count(13)", x.count(13), 310);
        Check.due("undo()", x.undo(), 2);
        Check.due("count(13)", x.count(13), 210);
        Check.due("undo()", x.undo(), 1);
        Check.due("count(13)", x.count(13), 206);
        Check.due("undo()", x.undo(), 0);
        Check.due("count(13)", x.count(13), 203);
        Check.due("undo()", x.undo(), Check.NOT_POSSIBLE);
    }
}
