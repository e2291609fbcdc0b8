public final class Promise13WhyTest {
    public static void main(String[] args) {
        CoatedBridges x = Check.withIslands(4);
        x.bridge(0, 4, 2);
        x.bridge(4, 3, 2);
        x.bridge(3, 2, 2);
        x.bridge(1, 0, 2);
        x.bridge(0, 1, 2);
        dueWhy(x, 0, 2, Check.NOT_FOUND);
        x.days(1);
        dueWhy(x, 0, 4, 2);
        dueWhy(x, 1, 4, 2);
        x.bridge(2, 1, 2);
        dueWhy(x, 0, 0, Check.NOT_FOUND);
        dueWhy(x, 5, 2, Check.NOT_FOUND);
        Check.due("send(0, 0)", x.send(0, 0), 0);
        dueWhy(x, 0, 1, Check.NOT_FOUND);
        dueWhy(x, 1, 3, Check.NOT_FOUND);
        dueWhy(x, 5, 2, Check.NOT_FOUND);
        x.set(0, 4);
        dueWhy(x, 0, 1, Check.NOT_FOUND);
        dueWhy(x, 1, 4, 4);
        dueWhy(x, 2, 4, 3);
        dueWhy(x, 3, 0, Check.NOT_FOUND);
        x.set(0, 0);
        dueWhy(x, 0, 1, Check.NOT_FOUND);
        dueWhy(x, 1, 3, Check.NOT_FOUND);
        aRustedOne();

        Check.due("why(-1, 0)", x.why(-1, 0), Check.INVALID);
        Check.due("why(6, 1)", x.why(6, 1), Check.INVALID);
        Check.due("why(MAX, 1)", x.why(Integer.MAX_VALUE, 1), Check.INVALID);
        Check.due("why(0, -1)", x.why(0, -1), Check.INVALID);
        Check.due("why(0, 2)", x.why(0, 2), Check.INVALID);
        Check.end();
    }

    private static void aRustedOne() {
        CoatedBridges x = Check.withBridges(1, 9);
        x.days(11);
        dueWhy(x, 0, 4, 1);
        x.days(1);
        dueWhy(x, 0, 0, Check.NOT_FOUND);
    }

    private static void dueWhy(CoatedBridges x, int bridge, int reason, int island) {
        Check.due("why(" + bridge + ", 0)", x.why(bridge, 0), reason);
        Check.due("why(" + bridge + ", 1)", x.why(bridge, 1), island);
    }
}
