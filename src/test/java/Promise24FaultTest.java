public final class Promise24FaultTest {
    public static void main(String[] args) {
        arguments();
        theForm();
        theFormOfALaterOrder();
        theCalls();
        theLimits();
        nothingChanges();
        Check.end();
    }

    private static void arguments() {
        CoatedBridges x = new CoatedBridges();
        Check.write(x, "x");
        int[] outOfRange = {-1, 3, Integer.MIN_VALUE, Integer.MAX_VALUE};
        for (int what : outOfRange) {
            Check.due("fault(" + what + ")", x.fault(what), Check.INVALID);
        }
        x.clearText();
        Check.due("fault(3) of no fault", x.fault(3), Check.INVALID);
        for (int what = 0; what <= 2; what++) {
            Check.due("fault(" + what + ") of the empty text", x.fault(what), Check.NOT_FOUND);
        }
    }

    private static void theForm() {
        CoatedBridges x = Check.withBridges(2, 1);
        String[] texts = {
            "x", ";", " i5;", "I5;", "5;", "i", "i;", "i ", "i5", "i5 ;", "i5,", "i-1;", "i1234;", "i123", "i0000",
            "b", "b;", "b0", "b0;", "b0,", "b0,;", "b0,1", "b0,1;", "b0,1,", "b0,1,;", "b0,1,9", "b0,1,9,", "b0001,",
            "b0,,9;", "b,0,1", "b0,1,9999", "s", "sx", "f:", "r/", "p0,1;", "d1.;",
        };
        int[] causes = {
            0, 0, 0, 0, 0, 1, 1, 1, 2, 2, 2, 1, 4, 4, 4,
            1, 1, 2, 2, 3, 3, 4, 4, 5, 5, 6, 6, 4,
            3, 1, 8, 1, 1, 1, 1, 2, 2,
        };
        for (int i = 0; i < texts.length; i++) {
            Check.dueFault(texts[i], x, 0, 1, causes[i]);
        }
        String[] kinds = {"i", "s", "f", "r", "p", "d"};
        for (String kind : kinds) {
            Check.dueFault(kind, x, 0, 1, 1);
            Check.dueFault(kind + "a", x, 0, 1, 1);
            Check.dueFault(kind + "12", x, 0, 1, 3);
            Check.dueFault(kind + "12,", x, 0, 1, 3);
        }
    }

    private static void theFormOfALaterOrder() {
        CoatedBridges x = new CoatedBridges();
        Check.dueFault("i5;i6;b0,1,x", x, 6, 1, 5);
        Check.dueFault("i5; d1;", x, 3, 1, 0);
        Check.dueFault("i5;;", x, 3, 1, 0);
        Check.dueFault("i5;d", x, 3, 1, 1);
        Check.dueNoFault("i005;d09;p001;b00,01,009;", x);
        Check.dueFault("i5;i6;i7;i8;i9;i10;i11;p1;p1;p1;p1;p1;p1;p1;p1;p1;p1;p1;i0", x, 56, 1, 2);
    }

    private static void theCalls() {
        CoatedBridges x = new CoatedBridges();
        Check.dueFault("i100;", x, 0, 2, Check.INVALID);
        Check.dueFault("b0,1,5;", x, 0, 2, Check.INVALID);
        Check.dueFault("i5;b0,1,0;", x, 3, 2, Check.INVALID);
        Check.dueFault("i5;b0,1,10;", x, 3, 2, Check.INVALID);
        Check.dueFault("i5;b1,1,5;", x, 3, 2, Check.INVALID);
        Check.dueFault("s0;", x, 0, 2, Check.INVALID);
        Check.dueFault("f0;", x, 0, 2, Check.INVALID);
        Check.dueFault("r0;", x, 0, 2, Check.INVALID);
        Check.dueFault("p0;", x, 0, 2, Check.INVALID);
        Check.dueFault("d0;", x, 0, 2, Check.INVALID);
        Check.dueFault("d100;", x, 0, 2, Check.INVALID);
        Check.dueFault("i5;b0,1,9;s0;", x, 10, 2, Check.NOT_POSSIBLE);
        Check.dueFault("i5;b0,1,9;f0;", x, 10, 2, Check.NOT_POSSIBLE);
        Check.dueFault("i5;b0,1,9;r0;", x, 10, 2, Check.NOT_POSSIBLE);
        Check.dueFault("i5;b0,1,9;d1;s0;", x, 13, 2, Check.NOT_POSSIBLE);
        Check.dueNoFault("i5;b0,1,9;d1;f0;r0;", x);
        Check.dueFault("i5;b0,1,9;d1;f0;f0;", x, 16, 2, Check.NOT_POSSIBLE);
        Check.dueNoFault("i5;b0,1,9;b0,1,9;d1;s0;d1;", x);
        Check.dueFault("i5;b0,1,9;b0,1,9;d1;s0;d1;r0;", x, 26, 2, Check.NOT_POSSIBLE);
        Check.dueFault("i100;x", x, 0, 2, Check.INVALID);
        Check.dueFault("x;i100;", x, 0, 1, 0);
    }

    private static void theLimits() {
        CoatedBridges x = new CoatedBridges();
        Check.dueFault("i1;i2;i3;i4;i5;i6;i7;i8;", x, 21, 2, Check.LIMIT);
        Check.dueFault("i1;i2;i3;i4;i5;i6;i7;i100;", x, 21, 2, Check.INVALID);
        x.island(1);
        for (int i = 0; i < 13; i++) {
            x.bridge(0, 1, 1);
        }
        Check.dueFault("b0,1,1;b0,1,1;", x, 7, 2, Check.LIMIT);
        for (int i = 0; i < 100; i++) {
            x.days(99);
        }
        Check.dueNoFault("d99;", x);
        Check.dueFault("d98;d2;", x, 4, 2, Check.LIMIT);
        Check.dueFault("d99;d1;", x, 4, 2, Check.LIMIT);
    }

    private static void nothingChanges() {
        CoatedBridges x = new CoatedBridges();
        Check.dueFault("i5;p9;d9;s1;", x, 9, 2, Check.INVALID);
        int[] due = {0, 1, 0, 1, 0, 0, 0, 0, 1, 1, 1, 0, 0, 200, 0, 0, 0, 0, 0, 12};
        for (int what = 0; what < due.length; what++) {
            Check.due("count(" + what + ")", x.count(what), due[what]);
        }
    }
}
