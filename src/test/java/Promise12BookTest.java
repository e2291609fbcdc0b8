public final class Promise12BookTest {
    public static void main(String[] args) {
        CoatedBridges x = Check.withIslands(2);
        Check.due("book(0, 0) of an empty book", x.book(0, 0), Check.NOT_FOUND);
        x.days(3);
        Check.due("book(0, 0) of days without complaints", x.book(0, 0), Check.NOT_FOUND);
        x.days(2);
        x.bridge(0, 1, 1);
        x.days(1);
        dueBook(x, new int[] {5, 4, 3}, new int[] {1, 2, 2});
        Check.due("book(-1, 0)", x.book(-1, 0), Check.INVALID);
        Check.due("book(MIN, 0)", x.book(Integer.MIN_VALUE, 0), Check.INVALID);
        Check.due("book(0, -1)", x.book(0, -1), Check.INVALID);
        Check.due("book(0, 2)", x.book(0, 2), Check.INVALID);
        Check.due("book(9, 2)", x.book(9, 2), Check.INVALID);
        Check.due("book(MAX, 1)", x.book(Integer.MAX_VALUE, 1), Check.NOT_FOUND);

        x.days(5);
        dueBook(x, new int[] {10, 9, 8, 7, 6, 5, 4, 3}, new int[] {1, 1, 1, 1, 1, 1, 2, 2});
        x.days(1);
        dueBook(x, new int[] {11, 10, 9, 8, 7, 6, 5, 4}, new int[] {1, 1, 1, 1, 1, 1, 1, 2});
        x.bridge(0, 2, 9);
        x.days(11);
        dueBook(x, new int[] {11, 10, 9, 8, 7, 6, 5, 4}, new int[] {1, 1, 1, 1, 1, 1, 1, 2});
        x.days(5);
        dueBook(x, new int[] {27, 26, 11, 10, 9, 8, 7, 6}, new int[] {1, 1, 1, 1, 1, 1, 1, 1});
        x.undo();
        dueBook(x, new int[] {11, 10, 9, 8, 7, 6, 5, 4}, new int[] {1, 1, 1, 1, 1, 1, 1, 2});
        Check.end();
    }

    private static void dueBook(CoatedBridges x, int[] days, int[] complaints) {
        Check.due("count(17)", x.count(17), days.length);
        for (int ago = 0; ago < days.length; ago++) {
            Check.due("book(" + ago + ", 0)", x.book(ago, 0), days[ago]);
            Check.due("book(" + ago + ", 1)", x.book(ago, 1), complaints[ago]);
        }
        Check.due("book(" + days.length + ", 0)", x.book(days.length, 0), Check.NOT_FOUND);
        Check.due("book(" + days.length + ", 1)", x.book(days.length, 1), Check.NOT_FOUND);
    }
}
