public final class Promise24FaultTest {
    public static void main(String[] args) {
        arguments();
        noFault();
        eachKindOfOrder();
        numbersOfDigits();
        endsTooEarly();
        theForm();
        theFormOfALaterOrder();
        theCalls();
        theLimits();
        nothingChanges();
        Check.end();
    }

    private static void arguments() {
        Check.sentence("INVALID_ARGUMENT if what is out of range");
        for (int what : new int[] {-1, 3, Integer.MIN_VALUE, Integer.MAX_VALUE}) {
            Check.dueUnchanged("fault(" + what + ")", Check.INVALID, Check::busy, x -> x.fault(what));
            Check.due("fault(" + what + ") of no fault", new CoatedBridges().fault(what), Check.INVALID);
        }
    }

    private static void noFault() {
        Check.sentence("NOT_FOUND if the text has no fault (also if it is empty)");
        CoatedBridges x = new CoatedBridges();
        for (int what = 0; what <= 2; what++) {
            Check.due("fault(" + what + ") of the empty text", x.fault(what), Check.NOT_FOUND);
        }
        Check.dueNoFault("i0;", x);
        Check.dueNoFault("p1;p999;d1;d99;", x);
        Check.dueFault("i5;x", x, 3, 1, 0);
        Check.dueNoFault("i5;", x);
        for (int what = 0; what <= 2; what++) {
            int asked = what;
            Check.dueUnchanged("fault(" + what + ")", Check.NOT_FOUND, y -> Check.write(y, "i5;d99;"),
                y -> y.fault(asked));
        }
    }

    private static void eachKindOfOrder() {
        Check.sentence("orders, each followed by ';'");
        CoatedBridges x = Check.withBridges(2, 9);
        x.days(1);
        String[] texts = {"i5;", "b0,1,9;", "s0;", "f0;", "s0;r0;", "p5;", "d5;"};
        for (String text : texts) {
            Check.dueNoFault(text, x);
            Check.write(x, text);
            Check.due("play() of " + text, x.play(), text.length() - text.replace(";", "").length());
            Check.due("undo() of " + text, x.undo(), 3);
        }
        for (int letter = 'A'; letter <= 'z'; letter++) {
            if ("ibsfrpd".indexOf(letter) < 0) {
                Check.write(x, (char) letter + "1;");
                Check.due("fault(2) of " + (char) letter, x.fault(2), 0);
            }
        }
    }

    private static void numbersOfDigits() {
        Check.sentence("numbers of 1 to 3 digits, 0 ahead allowed");
        CoatedBridges x = new CoatedBridges();
        Check.dueFault("i;", x, 0, 1, 1);
        Check.dueNoFault("i9;", x);
        Check.dueNoFault("i99;", x);
        Check.dueNoFault("i099;", x);
        Check.dueNoFault("i000;", x);
        Check.dueNoFault("i00;", x);
        Check.dueFault("i0000;", x, 0, 1, 4);
        Check.dueFault("i0099;", x, 0, 1, 4);
        Check.dueFault("i1000;", x, 0, 1, 4);
        Check.dueFault("i999;", x, 0, 2, Check.INVALID);
        Check.dueNoFault("p999;", x);
        Check.dueFault("p1000;", x, 0, 1, 4);
        Check.dueNoFault("i5;b000,001,009;", x);
        Check.dueFault("i5;b0000,1,9;", x, 3, 1, 4);
        Check.dueFault("i5;b0,0001,9;", x, 3, 1, 6);
        Check.dueFault("i5;b0,1,0009;", x, 3, 1, 8);
        Check.dueFault("i5;b000,001,0009;", x, 3, 1, 12);
        Check.dueFault("i5;b,1,9;", x, 3, 1, 1);
        Check.dueFault("i5;b0,,9;", x, 3, 1, 3);
        Check.dueFault("i5;b0,1,;", x, 3, 1, 5);
        Check.dueFault("i/;", x, 0, 1, 1);
        Check.dueFault("i:;", x, 0, 1, 1);
        Check.dueFault("i9/", x, 0, 1, 2);
        Check.dueFault("i9:", x, 0, 1, 2);
    }

    /** The whole text but for its last character, but for its last two, and so on. */
    private static void endsTooEarly() {
        Check.sentence("of one that the text ends too early it is its length");
        String[] orders = {"i005;", "b000,001,009;", "s012;", "f3;", "r010;", "p999;", "d99;"};
        for (String order : orders) {
            for (int length = 1; length < order.length(); length++) {
                CoatedBridges x = new CoatedBridges();
                Check.dueFault(order.substring(0, length), x, 0, 1, length);
                Check.dueFault("i5;" + order.substring(0, length), x, 3, 1, length);
            }
        }
        CoatedBridges x = new CoatedBridges();
        Check.dueFault("p1;p1;p1;p1;p1;p1;p1;p1;p1;p1;p1;p1;p1;p1;p1;p1;p1;p1;p1;p01", x, 57, 1, 3);
        Check.due("type(';') of a full text", x.type(';'), Check.LIMIT);
        Check.dueFault("p1;p1;p1;p1;p1;p1;p1;p1;p1;p1;p1;p1;p1;p1;p1;p1;p1;p1;p01;d", x, 58, 1, 1);
    }

    private static void theForm() {
        Check.sentence("its reason is 1 if it is not of this form; its cause is .. at which character of the order it breaks off");
        CoatedBridges x = Check.withBridges(2, 1);
        String[] texts = {
            "x", ";", " i5;", "I5;", "5;", "i", "i;", "i ", "i5", "i5 ;", "i5,", "i-1;", "i1234;", "i123", "i0000",
            "b", "b;", "b0", "b0;", "b0,", "b0,;", "b0,1", "b0,1;", "b0,1,", "b0,1,;", "b0,1,9", "b0,1,9,", "b0001,",
            "b0,,9;", "b,0,1", "b0,1,9999", "s", "sx", "f:", "r/", "p0,1;", "d1.;",
        };
        int[] causes = {
            0, 0, 0, 0, 0, 1, 1, 1, 2, 2, 2, 1, 4, 4, 4,
            1, 1, 2, 2, 3, 3, 4, 4, 5, 5, 6, 6, 4,
            3, 1, 8, 1, 1, 1, 1, 2, 2,
        };
        for (int i = 0; i < texts.length; i++) {
            Check.dueFault(texts[i], x, 0, 1, causes[i]);
        }
        String[] kinds = {"i", "s", "f", "r", "p", "d"};
        for (String kind : kinds) {
            Check.dueFault(kind, x, 0, 1, 1);
            Check.dueFault(kind + "a", x, 0, 1, 1);
            Check.dueFault(kind + "12", x, 0, 1, 3);
            Check.dueFault(kind + "12,", x, 0, 1, 3);
        }
    }

    private static void theFormOfALaterOrder() {
        Check.sentence("the position, from 0, of the first character of the first order that is not possible");
        CoatedBridges x = new CoatedBridges();
        Check.dueFault("i5;i6;b0,1,x", x, 6, 1, 5);
        Check.dueFault("i5; d1;", x, 3, 1, 0);
        Check.dueFault("i5;;", x, 3, 1, 0);
        Check.dueFault("i5;d", x, 3, 1, 1);
        Check.dueNoFault("i005;d09;p001;b00,01,009;", x);
        Check.dueFault("i5;i6;i7;i8;i9;i10;i11;p1;p1;p1;p1;p1;p1;p1;p1;p1;p1;p1;i0", x, 56, 1, 2);
    }

    private static void theCalls() {
        Check.sentence("otherwise 2, when those ahead of it are done; with the reason 2 the error code that the call returns for it");
        CoatedBridges x = new CoatedBridges();
        Check.dueFault("i100;", x, 0, 2, Check.INVALID);
        Check.dueFault("b0,1,5;", x, 0, 2, Check.INVALID);
        Check.dueFault("i5;b0,1,0;", x, 3, 2, Check.INVALID);
        Check.dueFault("i5;b0,1,10;", x, 3, 2, Check.INVALID);
        Check.dueFault("i5;b1,1,5;", x, 3, 2, Check.INVALID);
        Check.dueFault("s0;", x, 0, 2, Check.INVALID);
        Check.dueFault("f0;", x, 0, 2, Check.INVALID);
        Check.dueFault("r0;", x, 0, 2, Check.INVALID);
        Check.dueFault("p0;", x, 0, 2, Check.INVALID);
        Check.dueFault("d0;", x, 0, 2, Check.INVALID);
        Check.dueFault("d100;", x, 0, 2, Check.INVALID);
        Check.dueFault("i5;b0,1,9;s0;", x, 10, 2, Check.NOT_POSSIBLE);
        Check.dueFault("i5;b0,1,9;f0;", x, 10, 2, Check.NOT_POSSIBLE);
        Check.dueFault("i5;b0,1,9;r0;", x, 10, 2, Check.NOT_POSSIBLE);
        Check.dueFault("i5;b0,1,9;d1;s0;", x, 13, 2, Check.NOT_POSSIBLE);
        Check.dueNoFault("i5;b0,1,9;d1;f0;r0;", x);
        Check.dueFault("i5;b0,1,9;d1;f0;f0;", x, 16, 2, Check.NOT_POSSIBLE);
        Check.dueNoFault("i5;b0,1,9;b0,1,9;d1;s0;d1;", x);
        Check.dueFault("i5;b0,1,9;b0,1,9;d1;s0;d1;r0;", x, 26, 2, Check.NOT_POSSIBLE);
        Check.dueFault("i100;x", x, 0, 2, Check.INVALID);
        Check.dueFault("x;i100;", x, 0, 1, 0);
    }

    private static void theLimits() {
        Check.sentence("with the reason 2 the error code that the call returns for it");
        CoatedBridges x = new CoatedBridges();
        Check.dueFault("i1;i2;i3;i4;i5;i6;i7;i8;", x, 21, 2, Check.LIMIT);
        Check.dueFault("i1;i2;i3;i4;i5;i6;i7;i100;", x, 21, 2, Check.INVALID);
        x.island(1);
        for (int i = 0; i < 13; i++) {
            x.bridge(0, 1, 1);
        }
        Check.dueFault("b0,1,1;b0,1,1;", x, 7, 2, Check.LIMIT);
        for (int i = 0; i < 100; i++) {
            x.days(99);
        }
        Check.dueNoFault("d99;", x);
        Check.dueFault("d98;d2;", x, 4, 2, Check.LIMIT);
        Check.dueFault("d99;d1;", x, 4, 2, Check.LIMIT);
    }

    private static void nothingChanges() {
        Check.sentence("The text stays, whether it has a fault or not.");
        CoatedBridges x = new CoatedBridges();
        Check.dueFault("i5;p9;d9;s1;", x, 9, 2, Check.INVALID);
        int[] due = {0, 1, 0, 1, 0, 0, 0, 0, 1, 1, 1, 0, 0, 200, 0, 0, 0, 0, 0, 12};
        for (int what = 0; what < due.length; what++) {
            Check.due("count(" + what + ")", x.count(what), due[what]);
        }
    }
}
