public final class Promise08SetTest {
    private static final int[] FIRST = {1, 30, 10, 0, 3, 12, 0, 40};
    private static final int[] LOWEST = {0, 1, 0, 0, 0, 0, 0, 0};
    private static final int[] HIGHEST = {4, 100, 99, 1, 30, 99, 1, 99};

    public static void main(String[] args) {
        firstValues();
        valuesAtTheEnds();
        valuesOutOfRange();
        whatOutOfRange();
        whatItChanges();
        Check.end();
    }

    private static void firstValues() {
        Check.sentence("The settings are (in parentheses: range; first value)");
        CoatedBridges x = new CoatedBridges();
        for (int what = 0; what < 8; what++) {
            Check.due("count(" + (20 + what) + ")", x.count(20 + what), FIRST[what]);
            Check.due("set(" + what + ", ..) to the first value", x.set(what, FIRST[what]), FIRST[what]);
        }
        CoatedBridges changed = new CoatedBridges();
        for (int what = 0; what < 8; what++) {
            changed.set(what, HIGHEST[what]);
        }
        CoatedBridges other = new CoatedBridges();
        for (int what = 0; what < 8; what++) {
            Check.due("count(" + (20 + what) + ") of another object", other.count(20 + what), FIRST[what]);
        }
    }

    private static void valuesAtTheEnds() {
        Check.sentence("value: a value in its range; returns what it was");
        CoatedBridges x = new CoatedBridges();
        for (int what = 0; what < 8; what++) {
            String call = "set(" + what + ", ..)";
            Check.due(call + " to the lowest", x.set(what, LOWEST[what]), FIRST[what]);
            Check.due("count(" + (20 + what) + ")", x.count(20 + what), LOWEST[what]);
            Check.due(call + " to the highest", x.set(what, HIGHEST[what]), LOWEST[what]);
            Check.due("count(" + (20 + what) + ")", x.count(20 + what), HIGHEST[what]);
            Check.due(call + " to the highest again", x.set(what, HIGHEST[what]), HIGHEST[what]);
        }
        for (int what = 0; what < 8; what++) {
            Check.due("count(" + (20 + what) + ") behind the others", x.count(20 + what), HIGHEST[what]);
        }
    }

    private static void valuesOutOfRange() {
        Check.sentence("INVALID_ARGUMENT if an argument is out of range");
        for (int i = 0; i < 8; i++) {
            int what = i;
            for (int value : new int[] {LOWEST[what] - 1, HIGHEST[what] + 1, Integer.MIN_VALUE, Integer.MAX_VALUE}) {
                Check.dueRefused("set(" + what + ", " + value + ")", Check.INVALID, Check::busy,
                    x -> x.set(what, value));
            }
        }
    }

    private static void whatOutOfRange() {
        Check.sentence("what: 0 to 7");
        for (int what : new int[] {-1, 8, Integer.MIN_VALUE, Integer.MAX_VALUE}) {
            for (int value : new int[] {0, 1}) {
                Check.dueRefused("set(" + what + ", " + value + ")", Check.INVALID, Check::busy,
                    x -> x.set(what, value));
            }
        }
    }

    private static void whatItChanges() {
        Check.sentence("The changes are the calls of .. set .. that return no error");
        CoatedBridges x = new CoatedBridges();
        x.set(0, 9);
        Check.due("count(18) of an error", x.count(18), 0);
        x.set(0, 1);
        Check.due("count(18) of a setting that stays", x.count(18), 1);
        x.set(1, 100);
        Check.due("count(18)", x.count(18), 2);
        x.undo();
        Check.due("count(21)", x.count(21), 30);
    }
}
