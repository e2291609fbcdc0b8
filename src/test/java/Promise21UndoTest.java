public final class Promise21UndoTest {
    public static void main(String[] args) {
        anEmptyHistory();
        statesThatAreLeft();
        theOldestIsDropped();
        eachChangeIsRestored();
        daysAndPlay();
        theTextStays();
        errorsAreNoChanges();
        otherCallsAreNoChanges();
        changesBehindAnUndo();
        theSameAsAhead();
        Check.end();
    }

    private static void anEmptyHistory() {
        Check.sentence("NOT_POSSIBLE if it is empty");
        Check.dueRefused("undo() of nothing", Check.NOT_POSSIBLE, x -> { }, CoatedBridges::undo);
        Check.Way allUndone = x -> {
            Check.busy(x);
            for (int i = 0; i < 4; i++) {
                x.undo();
            }
        };
        Check.dueRefused("undo() of what was dropped", Check.NOT_POSSIBLE, allUndone, CoatedBridges::undo);
        CoatedBridges x = new CoatedBridges();
        x.pay(1);
        Check.due("undo() of the only one", x.undo(), 0);
        Check.due("undo() of no more", x.undo(), Check.NOT_POSSIBLE);
        Check.due("undo() of no more", x.undo(), Check.NOT_POSSIBLE);
    }

    private static void statesThatAreLeft() {
        Check.sentence("Returns the number of states that are left in the history");
        for (int changes = 1; changes <= 9; changes++) {
            CoatedBridges x = new CoatedBridges();
            for (int i = 0; i < changes; i++) {
                x.pay(1);
            }
            for (int left = Math.min(4, changes) - 1; left >= 0; left--) {
                Check.due("undo() of " + changes, x.undo(), left);
            }
            Check.due("undo() of no more", x.undo(), Check.NOT_POSSIBLE);
            Check.due("count(13) of " + changes, x.count(13), 200 + Math.max(0, changes - 4));
        }
    }

    private static void theOldestIsDropped() {
        Check.sentence("if there are 5 states then, the oldest one is dropped");
        CoatedBridges x = new CoatedBridges();
        x.island(4);
        x.bridge(0, 1, 9);
        x.days(12);
        x.send(0, 0);
        Check.due("count(18) of four changes", x.count(18), 4);
        x.recall(0);
        x.set(3, 1);
        x.pay(5);
        Check.due("count(18) of more changes", x.count(18), 4);
        Check.due("undo() of pay", x.undo(), 3);
        Check.due("count(13)", x.count(13), 344);
        Check.due("undo() of set", x.undo(), 2);
        Check.due("count(23)", x.count(23), 0);
        Check.due("undo() of recall", x.undo(), 1);
        Check.due("bridgeOf(0, 4)", x.bridgeOf(0, 4), 1);
        Check.due("undo() of send", x.undo(), 0);
        Check.due("bridgeOf(0, 4)", x.bridgeOf(0, 4), 2);
        Check.due("bridgeOf(0, 5)", x.bridgeOf(0, 5), 0);
        Check.due("undo() of what was dropped", x.undo(), Check.NOT_POSSIBLE);
        Check.due("count(0)", x.count(0), 12);
    }

    private static void eachChangeIsRestored() {
        Check.sentence("each change records everything before it but the text");
        Check.Call[] changes = {
            x -> x.island(0), x -> x.bridge(3, 0, 1), x -> x.recall(1), x -> x.pay(999), x -> x.days(99),
            x -> x.set(0, 4), x -> x.set(1, 100), x -> x.set(2, 99), x -> x.set(3, 0), x -> x.set(4, 30),
            x -> x.set(5, 99), x -> x.set(6, 1), x -> x.set(7, 99),
        };
        for (int i = 0; i < changes.length; i++) {
            dueRestored("the change " + i, changes[i], Check::busy);
        }
        Check.Way free = x -> {
            Check.busy(x);
            x.recall(1);
        };
        dueRestored("send(1, 0)", x -> x.send(1, 0), free);
        dueRestored("send(2, 1)", x -> x.send(2, 1), free);
        dueRestored("play()", CoatedBridges::play, x -> {
            Check.busy(x);
            Check.write(x, "d9;i5;");
        });
    }

    /** Without the states that the change dropped: undo() leaves one less than there were. */
    private static void dueRestored(String call, Check.Call change, Check.Way way) {
        CoatedBridges x = Check.after(way);
        CoatedBridges twin = Check.after(way);
        int before = twin.count(18);
        Check.due(call + " is a change", change.on(x) >= 0 ? 1 : 0, 1);
        Check.due("undo() of " + call, x.undo(), before - 1);
        for (int what = 0; what < 28; what++) {
            int less = what == 18 ? 1 : 0;
            Check.due("behind " + call + ", count(" + what + ")", x.count(what), twin.count(what) - less);
        }
        for (int i = 0; i < 4; i++) {
            for (int what = 0; what <= 8; what++) {
                Check.due("behind " + call + ", bridgeOf(" + i + ", " + what + ")", x.bridgeOf(i, what),
                    twin.bridgeOf(i, what));
                Check.due("behind " + call + ", islandOf(" + i + ", " + what + ")", x.islandOf(i, what),
                    twin.islandOf(i, what));
            }
        }
        for (int ago = 0; ago <= 8; ago++) {
            Check.due("behind " + call + ", book(" + ago + ", 0)", x.book(ago, 0), twin.book(ago, 0));
            Check.due("behind " + call + ", book(" + ago + ", 1)", x.book(ago, 1), twin.book(ago, 1));
        }
    }

    private static void theTextStays() {
        Check.sentence("each change records everything before it but the text");
        CoatedBridges x = new CoatedBridges();
        Check.write(x, "i5;");
        x.pay(5);
        Check.due("type('x')", x.type('x'), 4);
        Check.due("undo()", x.undo(), 0);
        Check.due("count(19), which stays", x.count(19), 4);
        Check.due("fault(0), which stays", x.fault(0), 3);
        x.pay(5);
        Check.due("clearText()", x.clearText(), 4);
        Check.due("undo()", x.undo(), 0);
        Check.due("count(19), which stays", x.count(19), 0);
    }

    /** With fewer than four changes nothing is dropped, so that all is as ahead of the change. */
    private static void theSameAsAhead() {
        Check.sentence("Restores the latest state of the history, which is removed from it.");
        Check.Way three = x -> {
            Check.write(x, "i9;b0,1,9;b0,1,3;b1,2,2;i5;");
            x.clearText();
            x.island(9);
            x.bridge(0, 1, 9);
            x.days(13);
        };
        Check.Way changed = x -> {
            three.go(x);
            x.days(99);
        };
        CoatedBridges x = Check.after(changed);
        Check.due("undo()", x.undo(), 3);
        Check.dueSame("behind days(99) and undo(), ", x, Check.after(three));
    }

    private static void daysAndPlay() {
        Check.sentence("each change records everything before it but the text");
        CoatedBridges x = Check.withIslands(2);
        x.days(9);
        Check.due("undo() of days", x.undo(), 2);
        int[] what = {0, 11, 12, 13, 16, 17};
        int[] due = {0, 0, 0, 200, 0, 0};
        for (int i = 0; i < what.length; i++) {
            Check.due("count(" + what[i] + ")", x.count(what[i]), due[i]);
        }
        Check.due("islandOf(1, 1)", x.islandOf(1, 1), 0);
        Check.due("islandOf(1, 4)", x.islandOf(1, 4), 0);
        Check.write(x, "b0,1,9;d30;i3;");
        Check.due("play()", x.play(), 3);
        Check.due("undo() of play", x.undo(), 2);
        Check.due("count(0)", x.count(0), 0);
        Check.due("count(1)", x.count(1), 3);
        Check.due("count(2)", x.count(2), 0);
        Check.due("count(19)", x.count(19), 14);
    }

    private static void errorsAreNoChanges() {
        Check.sentence("The changes are the calls of .. that return no error.");
        CoatedBridges x = new CoatedBridges();
        x.island(-1);
        x.bridge(0, 1, 1);
        x.send(0, 0);
        x.recall(0);
        x.pay(0);
        x.days(0);
        x.set(0, 9);
        x.type('x');
        x.play();
        Check.due("count(18)", x.count(18), 0);
        Check.due("undo()", x.undo(), Check.NOT_POSSIBLE);
    }

    private static void otherCallsAreNoChanges() {
        Check.sentence("The changes are the calls of island, bridge, send, recall, pay, days, set and play");
        Check.Call[] others = {
            x -> x.bridgeOf(0, 8), x -> x.islandOf(1, 7), x -> x.reach(0), x -> x.book(0, 0), x -> x.why(0, 0),
            CoatedBridges::best, x -> x.rustsIn(0), x -> x.paintedIn(1), CoatedBridges::aloneIn, x -> x.ifDays(3),
            CoatedBridges::mean, x -> x.count(3), x -> x.fault(0), x -> x.type('x'), CoatedBridges::clearText,
        };
        CoatedBridges x = Check.withBridges(2, 9);
        x.days(1);
        x.undo();
        for (int i = 0; i < others.length; i++) {
            others[i].on(x);
            Check.due("count(18) behind the call " + i, x.count(18), 3);
        }
        Check.due("undo()", x.undo(), 2);
        Check.due("count(2)", x.count(2), 1);
    }

    private static void changesBehindAnUndo() {
        Check.sentence("Restores the latest state of the history, which is removed from it.");
        CoatedBridges x = new CoatedBridges();
        for (int coins = 1; coins <= 6; coins++) {
            x.pay(coins);
        }
        Check.due("undo()", x.undo(), 3);
        Check.due("undo()", x.undo(), 2);
        x.pay(100);
        Check.due("count(18)", x.count(18), 3);
        Check.due("count(13)", x.count(13), 310);
        Check.due("undo()", x.undo(), 2);
        Check.due("count(13)", x.count(13), 210);
        Check.due("undo()", x.undo(), 1);
        Check.due("count(13)", x.count(13), 206);
        Check.due("undo()", x.undo(), 0);
        Check.due("count(13)", x.count(13), 203);
        Check.due("undo()", x.undo(), Check.NOT_POSSIBLE);
    }
}
