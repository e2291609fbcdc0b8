public final class Promise01NewObjectTest {
    public static void main(String[] args) {
        dueNew(new CoatedBridges());

        CoatedBridges used = Check.withBridges(1, 1);
        used.days(20);
        used.type('i');
        dueNew(new CoatedBridges());

        Check.due("INVALID_ARGUMENT", CoatedBridges.INVALID_ARGUMENT, -1000001);
        Check.due("NOT_POSSIBLE", CoatedBridges.NOT_POSSIBLE, -1000002);
        Check.due("LIMIT_REACHED", CoatedBridges.LIMIT_REACHED, -1000003);
        Check.due("NOT_FOUND", CoatedBridges.NOT_FOUND, -1000004);
        Check.end();
    }

    private static void dueNew(CoatedBridges x) {
        int[] counts = {0, 1, 0, 1, 0, 0, 0, 0, 1, 1, 1, 0, 0, 200, 0, 0, 0, 0, 0, 0, 1, 30, 10, 0, 3, 12, 0, 40};
        for (int what = 0; what < counts.length; what++) {
            Check.due("count(" + what + ")", x.count(what), counts[what]);
        }
        int[] mainland = {1, 0, 0, 0, 0, 0, 0, 0};
        for (int what = 0; what < mainland.length; what++) {
            Check.due("islandOf(0, " + what + ")", x.islandOf(0, what), mainland[what]);
        }
        Check.due("undo()", x.undo(), Check.NOT_POSSIBLE);
        Check.due("fault(0)", x.fault(0), Check.NOT_FOUND);
    }
}
