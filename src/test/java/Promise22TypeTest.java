public final class Promise22TypeTest {
    private static final int[] OUT_OF_RANGE = {
        31, 127, 0, 10, 59 + 256, 59 + 65536, -1, -59, Integer.MIN_VALUE, Integer.MAX_VALUE,
    };

    public static void main(String[] args) {
        charactersAtTheEnds();
        charactersOutOfRange();
        sixtyCharacters();
        errorsInTheirOrder();
        allCharacters();
        Check.end();
    }

    private static void charactersAtTheEnds() {
        Check.sentence("character: 32 to 126; returns the length of the text");
        CoatedBridges x = new CoatedBridges();
        Check.due("type(32)", x.type(32), 1);
        Check.due("type(33)", x.type(33), 2);
        Check.due("type(125)", x.type(125), 3);
        Check.due("type(126)", x.type(126), 4);
        Check.due("count(19)", x.count(19), 4);
        Check.due("count(18), as the text is no change", x.count(18), 0);
    }

    private static void charactersOutOfRange() {
        Check.sentence("INVALID_ARGUMENT if character is out of range");
        for (int character : OUT_OF_RANGE) {
            Check.dueRefused("type(" + character + ")", Check.INVALID, x -> { }, x -> x.type(character));
            Check.dueRefused("type(" + character + ") in an order", Check.INVALID, x -> Check.write(x, "p5"),
                x -> x.type(character));
        }
    }

    private static void full(CoatedBridges x) {
        for (int i = 1; i <= 60; i++) {
            Check.due("type of p1; again and again", x.type("p1;".charAt((i - 1) % 3)), i);
        }
    }

    private static void sixtyCharacters() {
        Check.sentence("LIMIT_REACHED if it has 60 characters");
        CoatedBridges x = new CoatedBridges();
        for (int i = 1; i <= 59; i++) {
            Check.due("type('d')", x.type('d'), i);
        }
        Check.due("type('d') as the sixtieth", x.type('d'), 60);
        Check.due("type('d') as the sixty-first", x.type('d'), Check.LIMIT);
        Check.due("count(19)", x.count(19), 60);
        Check.dueRefused("type('x') as the sixty-first", Check.LIMIT, Promise22TypeTest::full, y -> y.type('x'));
        Check.dueRefused("type(32) as the sixty-first", Check.LIMIT, Promise22TypeTest::full, y -> y.type(32));
        Check.dueRefused("type(126) as the sixty-first", Check.LIMIT, Promise22TypeTest::full, y -> y.type(126));
        CoatedBridges y = Check.after(Promise22TypeTest::full);
        y.type('x');
        Check.due("play() of the sixty", y.play(), 20);
        y.clearText();
        Check.due("type('d') of the emptied text", y.type('d'), 1);
    }

    private static void errorsInTheirOrder() {
        Check.sentence("INVALID_ARGUMENT is returned rather than .. LIMIT_REACHED");
        for (int character : OUT_OF_RANGE) {
            Check.dueRefused("type(" + character + ") as the sixty-first", Check.INVALID, Promise22TypeTest::full,
                x -> x.type(character));
        }
    }

    /** Those that no order begins with are a fault at once; those that one begins with break off behind them. */
    private static void allCharacters() {
        Check.sentence("Appends a character to the text.");
        CoatedBridges x = new CoatedBridges();
        for (int character = 32; character <= 126; character++) {
            x.clearText();
            Check.due("type(" + character + ")", x.type(character), 1);
            boolean begins = "ibsfrpd".indexOf(character) >= 0;
            Check.due("fault(2) of the character " + character, x.fault(2), begins ? 1 : 0);
        }
    }
}
