public final class Promise06PayTest {
    public static void main(String[] args) {
        CoatedBridges x = new CoatedBridges();
        int[] outOfRange = {0, 1000, -1, Integer.MIN_VALUE, Integer.MAX_VALUE};
        for (int coins : outOfRange) {
            Check.due("pay(" + coins + ")", x.pay(coins), Check.INVALID);
        }
        Check.due("count(18)", x.count(18), 0);
        Check.due("pay(1)", x.pay(1), 201);
        Check.due("pay(999)", x.pay(999), 1200);
        Check.due("count(13)", x.count(13), 1200);
        Check.due("count(16)", x.count(16), 1000);
        Check.due("count(18)", x.count(18), 2);
        theLimit();
        Check.end();
    }

    private static void theLimit() {
        CoatedBridges x = new CoatedBridges();
        Check.write(x, "p999;p999;p999;p999;p999;p999;p999;p999;p999;p999;p999;p999;");
        for (int i = 1; i <= 83; i++) {
            Check.due("play()", x.play(), 12);
        }
        Check.due("count(13)", x.count(13), 200 + 83 * 11988);
        for (int i = 1; i <= 4; i++) {
            x.pay(999);
        }
        Check.due("count(13)", x.count(13), 999200);
        Check.due("pay(800)", x.pay(800), Check.LIMIT);
        Check.due("count(13)", x.count(13), 999200);
        Check.due("pay(799)", x.pay(799), 999999);
        Check.due("pay(1)", x.pay(1), Check.LIMIT);
        Check.due("pay(1000)", x.pay(1000), Check.INVALID);
        x.days(2);
        Check.due("count(13) beyond the limit by days", x.count(13), 1000023);
        Check.due("count(16)", x.count(16), 1000023 - 200);
        Check.due("pay(1)", x.pay(1), Check.LIMIT);
    }
}
