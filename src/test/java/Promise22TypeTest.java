public final class Promise22TypeTest {
    public static void main(String[] args) {
        CoatedBridges x = new CoatedBridges();
        int[] outOfRange = {31, 127, 0, -1, Integer.MIN_VALUE, Integer.MAX_VALUE, 65536 + 'i'};
        for (int character : outOfRange) {
            Check.due("type(" + character + ")", x.type(character), Check.INVALID);
        }
        Check.due("count(19)", x.count(19), 0);
        Check.due("type(32)", x.type(32), 1);
        Check.due("type(126)", x.type(126), 2);
        for (int i = 3; i <= 60; i++) {
            Check.due("type('d')", x.type('d'), i);
        }
        Check.due("type('d') as the last but one", x.type('d'), Check.LIMIT);
        Check.due("type(31) behind the last", x.type(31), Check.INVALID);
        Check.due("type(127) behind the last", x.type(127), Check.INVALID);
        Check.due("count(19)", x.count(19), 60);
        Check.due("count(18), as the text is no change", x.count(18), 0);
        Check.end();
    }
}
