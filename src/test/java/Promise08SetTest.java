public final class Promise08SetTest {
    public static void main(String[] args) {
        CoatedBridges x = new CoatedBridges();
        int[] first = {1, 30, 10, 0, 3, 12, 0, 40};
        int[] lowest = {0, 1, 0, 0, 0, 0, 0, 0};
        int[] highest = {4, 100, 99, 1, 30, 99, 1, 99};
        for (int what = 0; what < 8; what++) {
            String call = "set(" + what + ", ..)";
            Check.due(call + " below", x.set(what, lowest[what] - 1), Check.INVALID);
            Check.due(call + " above", x.set(what, highest[what] + 1), Check.INVALID);
            Check.due(call + " MIN", x.set(what, Integer.MIN_VALUE), Check.INVALID);
            Check.due(call + " MAX", x.set(what, Integer.MAX_VALUE), Check.INVALID);
            Check.due("count of the setting " + what, x.count(20 + what), first[what]);
            Check.due(call + " lowest", x.set(what, lowest[what]), first[what]);
            Check.due(call + " highest", x.set(what, highest[what]), lowest[what]);
            Check.due(call + " highest again", x.set(what, highest[what]), highest[what]);
            Check.due("count of the setting " + what, x.count(20 + what), highest[what]);
        }
        Check.due("set(-1, 0)", x.set(-1, 0), Check.INVALID);
        Check.due("set(8, 0)", x.set(8, 0), Check.INVALID);
        Check.due("set(MAX, 0)", x.set(Integer.MAX_VALUE, 0), Check.INVALID);
        Check.due("set(MIN, 0)", x.set(Integer.MIN_VALUE, 0), Check.INVALID);

        CoatedBridges y = new CoatedBridges();
        Check.due("count(20) of another object", y.count(20), 1);
        y.set(0, 9);
        Check.due("count(18)", y.count(18), 0);
        y.set(0, 1);
        Check.due("count(18) of a setting that stays", y.count(18), 1);
        Check.end();
    }
}
