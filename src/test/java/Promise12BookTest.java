public final class Promise12BookTest {
    public static void main(String[] args) {
        wrongArguments();
        anEmptyBook();
        notSoMany();
        theLatestEight();
        daysWithoutComplaints();
        behindUndo();
        Check.end();
    }

    private static void wrongArguments() {
        Check.sentence("INVALID_ARGUMENT if an argument is out of range (ago is not below 0)");
        int[][] wrong = {
            {-1, 0}, {-1, 1}, {Integer.MIN_VALUE, 0}, {0, -1}, {0, 2}, {0, Integer.MIN_VALUE}, {0, Integer.MAX_VALUE},
        };
        for (int[] a : wrong) {
            Check.dueUnchanged("book(" + a[0] + ", " + a[1] + ")", Check.INVALID, Check::busy,
                x -> x.book(a[0], a[1]));
        }
        Check.sentence("INVALID_ARGUMENT is returned rather than .. NOT_FOUND");
        CoatedBridges x = new CoatedBridges();
        Check.due("book(-1, 0) of an empty book", x.book(-1, 0), Check.INVALID);
        Check.due("book(0, 2) of an empty book", x.book(0, 2), Check.INVALID);
        Check.due("book(0, -1) of an empty book", x.book(0, -1), Check.INVALID);
        Check.due("book(9, 2) of an empty book", x.book(9, 2), Check.INVALID);
    }

    private static void anEmptyBook() {
        Check.sentence("NOT_FOUND if there are not so many");
        CoatedBridges x = Check.withIslands(2);
        dueBook(x, new int[] {}, new int[] {});
        x.days(3);
        dueBook(x, new int[] {}, new int[] {});
    }

    private static void notSoMany() {
        Check.sentence("NOT_FOUND if there are not so many");
        CoatedBridges x = Check.withIslands(2);
        x.days(4);
        dueBook(x, new int[] {3}, new int[] {2});
        x.days(1);
        x.bridge(0, 1, 1);
        x.days(1);
        dueBook(x, new int[] {5, 4, 3}, new int[] {1, 2, 2});
        Check.due("book(8, 0)", x.book(8, 0), Check.NOT_FOUND);
        Check.due("book(MAX, 0)", x.book(Integer.MAX_VALUE, 0), Check.NOT_FOUND);
        Check.due("book(MAX, 1)", x.book(Integer.MAX_VALUE, 1), Check.NOT_FOUND);
        Check.dueUnchanged("book(7, 1) of eight", 1, Check::busy, y -> y.book(7, 1));
        Check.dueRefused("book(8, 1) of eight", Check.NOT_FOUND, Check::busy, y -> y.book(8, 1));
        Check.dueRefused("book(8, 0) of eight", Check.NOT_FOUND, Check::busy, y -> y.book(8, 0));
        Check.dueRefused("book(0, 0) of none", Check.NOT_FOUND, y -> Check.addIslands(y, 1), y -> y.book(0, 0));
    }

    private static void theLatestEight() {
        Check.sentence("Returns a day of the book, which has the latest 8.");
        CoatedBridges x = Check.withIslands(2);
        x.days(5);
        x.bridge(0, 1, 1);
        x.days(5);
        dueBook(x, new int[] {9, 8, 7, 6, 5, 4, 3}, new int[] {1, 1, 1, 1, 1, 2, 2});
        x.days(1);
        dueBook(x, new int[] {10, 9, 8, 7, 6, 5, 4, 3}, new int[] {1, 1, 1, 1, 1, 1, 2, 2});
        x.days(1);
        dueBook(x, new int[] {11, 10, 9, 8, 7, 6, 5, 4}, new int[] {1, 1, 1, 1, 1, 1, 1, 2});
        x.days(1);
        dueBook(x, new int[] {12, 11, 10, 9, 8, 7, 6, 5}, new int[] {1, 1, 1, 1, 1, 1, 1, 1});
        x.days(99);
        dueBook(x, new int[] {111, 110, 109, 108, 107, 106, 105, 104}, new int[] {2, 2, 2, 2, 2, 1, 1, 1});
    }

    private static void daysWithoutComplaints() {
        Check.sentence("If there were complaints on this day, the day that ended and how many .. come into the book");
        CoatedBridges x = Check.withIslands(1);
        x.set(4, 0);
        x.days(2);
        dueBook(x, new int[] {1, 0}, new int[] {1, 1});
        x.bridge(0, 1, 9);
        x.days(11);
        dueBook(x, new int[] {1, 0}, new int[] {1, 1});
        x.days(1);
        dueBook(x, new int[] {13, 1, 0}, new int[] {1, 1, 1});
    }

    private static void behindUndo() {
        Check.sentence("each change records everything before it but the text");
        CoatedBridges x = Check.withIslands(1);
        x.days(13);
        int[] ones = {1, 1, 1, 1, 1, 1, 1, 1};
        dueBook(x, new int[] {12, 11, 10, 9, 8, 7, 6, 5}, ones);
        x.days(5);
        dueBook(x, new int[] {17, 16, 15, 14, 13, 12, 11, 10}, ones);
        x.undo();
        dueBook(x, new int[] {12, 11, 10, 9, 8, 7, 6, 5}, ones);
        x.undo();
        dueBook(x, new int[] {}, new int[] {});
    }

    private static void dueBook(CoatedBridges x, int[] days, int[] complaints) {
        Check.due("count(17)", x.count(17), days.length);
        for (int ago = 0; ago < days.length; ago++) {
            Check.due("book(" + ago + ", 0)", x.book(ago, 0), days[ago]);
            Check.due("book(" + ago + ", 1)", x.book(ago, 1), complaints[ago]);
        }
        Check.due("book(" + days.length + ", 0)", x.book(days.length, 0), Check.NOT_FOUND);
        Check.due("book(" + days.length + ", 1)", x.book(days.length, 1), Check.NOT_FOUND);
    }
}
