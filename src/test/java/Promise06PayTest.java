public final class Promise06PayTest {
    public static void main(String[] args) {
        coinsAtTheEnds();
        coinsOutOfRange();
        theLimit();
        theLimitInAText();
        beyondTheLimitByDays();
        Check.end();
    }

    private static void coinsAtTheEnds() {
        Check.sentence("coins: 1 to 999; returns what the purse has then");
        CoatedBridges x = new CoatedBridges();
        Check.due("pay(1)", x.pay(1), 201);
        Check.due("pay(2)", x.pay(2), 203);
        Check.due("pay(998)", x.pay(998), 1201);
        Check.due("pay(999)", x.pay(999), 2200);
        Check.due("count(13)", x.count(13), 2200);
        Check.due("count(16)", x.count(16), 2000);
        Check.due("count(18)", x.count(18), 4);
    }

    private static void coinsOutOfRange() {
        Check.sentence("INVALID_ARGUMENT if coins is out of range");
        for (int coins : new int[] {0, 1000, -1, Integer.MIN_VALUE, Integer.MAX_VALUE}) {
            Check.dueRefused("pay(" + coins + ")", Check.INVALID, x -> { }, x -> x.pay(coins));
            Check.dueRefused("pay(" + coins + ") later", Check.INVALID, Check::busy, x -> x.pay(coins));
        }
    }

    private static void rich(CoatedBridges x) {
        Check.write(x, "p999;p999;p999;p999;p999;p999;p999;p999;p999;p999;p999;p999;");
        for (int i = 1; i <= 83; i++) {
            Check.due("play()", x.play(), 12);
        }
        for (int i = 1; i <= 4; i++) {
            x.pay(999);
        }
        Check.due("count(13)", x.count(13), 999200);
    }

    private static void theLimit() {
        Check.sentence("LIMIT_REACHED if it would have more than 999999");
        Check.dueRefused("pay(800) to 1000000", Check.LIMIT, Promise06PayTest::rich, x -> x.pay(800));
        Check.dueRefused("pay(999) to 1000199", Check.LIMIT, Promise06PayTest::rich, x -> x.pay(999));
        CoatedBridges x = Check.after(Promise06PayTest::rich);
        Check.due("pay(799) to 999999", x.pay(799), 999999);
        Check.due("pay(1) to 1000000", x.pay(1), Check.LIMIT);
        Check.due("count(13)", x.count(13), 999999);
        Check.due("count(16)", x.count(16), 999799);
        CoatedBridges y = Check.after(Promise06PayTest::rich);
        Check.due("pay(798) to 999998", y.pay(798), 999998);
        Check.due("pay(2) to 1000000", y.pay(2), Check.LIMIT);
        Check.due("pay(1) to 999999", y.pay(1), 999999);

        Check.sentence("INVALID_ARGUMENT is returned rather than .. LIMIT_REACHED");
        Check.due("pay(1000)", y.pay(1000), Check.INVALID);
        Check.due("pay(0)", y.pay(0), Check.INVALID);
        Check.dueRefused("pay(1000) to 1000200", Check.INVALID, Promise06PayTest::rich, z -> z.pay(1000));
        Check.dueRefused("pay(MAX)", Check.INVALID, Promise06PayTest::rich, z -> z.pay(Integer.MAX_VALUE));
    }

    private static void theLimitInAText() {
        Check.sentence("with the reason 2 the error code that the call returns for it");
        CoatedBridges x = Check.after(Promise06PayTest::rich);
        Check.dueNoFault("p799;", x);
        Check.dueFault("p800;", x, 0, 2, Check.LIMIT);
        Check.dueFault("p400;p399;p1;", x, 10, 2, Check.LIMIT);
        Check.dueFault("p400;p399;p0;", x, 10, 2, Check.INVALID);
        Check.due("count(13)", x.count(13), 999200);
        Check.write(x, "p400;p399;");
        Check.due("play() to 999999", x.play(), 2);
        Check.due("count(13)", x.count(13), 999999);
    }

    private static void beyondTheLimitByDays() {
        Check.sentence("it can have more than 999999 by that");
        CoatedBridges x = Check.after(Promise06PayTest::rich);
        x.pay(799);
        x.days(2);
        Check.due("count(13) beyond the limit by days", x.count(13), 1000023);
        Check.due("count(16)", x.count(16), 1000023 - 200);
        Check.due("pay(1)", x.pay(1), Check.LIMIT);
        x.set(5, 99);
        x.days(99);
        Check.due("count(13) far beyond the limit", x.count(13), 1000023 + 9801);
        Check.due("pay(999)", x.pay(999), Check.LIMIT);
        Check.due("pay(1000)", x.pay(1000), Check.INVALID);
    }
}
