import java.util.Random;

/** Long runs of made-up calls, the same ones each time; each answer must be that of the model. */
public final class ModelRunsTest {
    private static final int CALLS = 512;
    private static final int[] FAR = {Integer.MIN_VALUE, Integer.MAX_VALUE, -1, -2, 60, 100, 1000, 1 << 16, 1 << 31 - 1};
    private static final String[] NAMES = {
        "island", "bridge", "send", "recall", "pay", "days", "set", "bridgeOf", "islandOf", "reach", "book", "why",
        "best", "rustsIn", "paintedIn", "aloneIn", "ifDays", "mean", "count", "undo", "type", "clearText", "fault",
        "play",
    };

    private final Random random;
    private final CoatedBridges program = new CoatedBridges();
    private final Model model = new Model();
    private final StringBuilder calls = new StringBuilder();
    private final int longDays;
    private int made;
    private boolean same = true;

    private ModelRunsTest(long seed) {
        random = new Random(seed);
        longDays = random.nextInt(4) == 0 ? 99 : 6;
    }

    public static void main(String[] args) {
        int runs = args.length > 0 ? Integer.parseInt(args[0]) : 400;
        for (int seed = 0; seed < runs; seed++) {
            ModelRunsTest run = new ModelRunsTest(seed);
            run.go();
            if (!run.same) {
                System.out.println("run " + seed + ":" + run.calls);
                Check.due("a run, with other answers than the model's", 1, 0);
                break;
            }
        }
        Check.end();
    }

    private void go() {
        int islands = random.nextInt(9);
        for (int i = 0; i < islands; i++) {
            call(0, below(100), 0, 0);
        }
        int bridges = random.nextInt(15);
        for (int i = 0; i < bridges; i++) {
            call(1, below(islands + 1), below(islands + 1), 1 + below(9));
        }
        while (made < CALLS && same) {
            if (random.nextInt(150) == 0) {
                writeText();
            } else {
                anyCall();
            }
        }
    }

    private int below(int bound) {
        return random.nextInt(bound);
    }

    private int usual(int bound) {
        return below(40) == 0 ? FAR[below(FAR.length)] : below(bound);
    }

    /** Most often one that there is. */
    private int anyBridge() {
        return usual(model.count(2) + (below(10) == 0 ? 3 : 1));
    }

    private int anyIsland() {
        return usual(model.count(1) + (below(10) == 0 ? 2 : 0));
    }

    private void anyCall() {
        int which = below(NAMES.length);
        switch (which) {
            case 0: call(which, below(8) == 0 ? usual(110) : 200, 0, 0); break;
            case 1: call(which, anyIsland(), anyIsland(), below(3) == 0 ? usual(11) : 0); break;
            case 2: call(which, anyBridge(), usual(2), 0); break;
            case 4: call(which, below(3) == 0 ? usual(1010) : usual(60), 0, 0); break;
            case 5: call(which, below(3) == 0 ? usual(longDays + 2) : 1, 0, 0); break;
            case 6: anySetting(); break;
            case 7: call(which, anyBridge(), usual(10), 0); break;
            case 8: call(which, anyIsland(), usual(9), 0); break;
            case 9: call(which, anyIsland(), 0, 0); break;
            case 10: call(which, usual(10), usual(3), 0); break;
            case 11: call(which, anyBridge(), usual(3), 0); break;
            case 16: call(which, usual(101), 0, 0); break;
            case 18: call(which, usual(29), 0, 0); break;
            case 19: call(below(4) == 0 ? 19 : 5, 1, 0, 0); break;
            case 20: call(which, 30 + usual(99), 0, 0); break;
            case 22: call(which, usual(4), 0, 0); break;
            default: call(which, anyBridge(), 0, 0); break;
        }
    }

    private void anySetting() {
        int[] spans = {6, 102, 101, 3, 32, 101, 3, 101};
        int what = usual(9);
        boolean known = what >= 0 && what < spans.length;
        int value = known ? usual(spans[what]) : usual(3);
        // Dear paint and long waits leave little to see, so that most values are small.
        call(6, what, known && (what == 2 || what == 4 || what == 5) && below(3) > 0 ? usual(14) : value, 0);
    }

    private void writeText() {
        call(21, 0, 0, 0);
        int orders = below(9);
        StringBuilder text = new StringBuilder();
        for (int i = 0; i < orders; i++) {
            text.append(anyOrder());
        }
        if (text.length() > 0 && below(3) == 0) {
            text.setCharAt(below(text.length()), ";,0bidsfrp9 ~".charAt(below(13)));
        }
        if (text.length() > 0 && below(4) == 0) {
            text.setLength(below(text.length()));
        }
        for (int i = 0; i < text.length(); i++) {
            call(20, text.charAt(i), 0, 0);
        }
        for (int what = 0; what < 3; what++) {
            call(22, what, 0, 0);
        }
        call(23, 0, 0, 0);
    }

    private String anyOrder() {
        switch (below(8)) {
            case 0: return "i" + below(105) + ";";
            case 1: return "b" + below(8) + ",0" + below(8) + "," + below(11) + ";";
            case 2: return "s" + below(14) + ";";
            case 3: return "f" + below(14) + ";";
            case 4: return "r" + below(14) + ";";
            case 5: return "p" + below(1000) + ";";
            default: return "d" + (1 + below(longDays)) + ";";
        }
    }

    private void call(int which, int a, int b, int c) {
        if (made >= CALLS || !same) {
            return;
        }
        made++;
        int got = ofProgram(which, a, b, c);
        int want = ofModel(which, a, b, c);
        calls.append("\n  ").append(NAMES[which]).append(' ').append(a).append(' ').append(b).append(' ').append(c);
        calls.append(" answered ").append(got);
        if (got != want) {
            same = false;
            calls.append(", due is ").append(want);
        }
    }

    private int ofProgram(int which, int a, int b, int c) {
        switch (which) {
            case 0: return program.island(a);
            case 1: return program.bridge(a, b, c);
            case 2: return program.send(a, b);
            case 3: return program.recall(a);
            case 4: return program.pay(a);
            case 5: return program.days(a);
            case 6: return program.set(a, b);
            case 7: return program.bridgeOf(a, b);
            case 8: return program.islandOf(a, b);
            case 9: return program.reach(a);
            case 10: return program.book(a, b);
            case 11: return program.why(a, b);
            case 12: return program.best();
            case 13: return program.rustsIn(a);
            case 14: return program.paintedIn(a);
            case 15: return program.aloneIn();
            case 16: return program.ifDays(a);
            case 17: return program.mean();
            case 18: return program.count(a);
            case 19: return program.undo();
            case 20: return program.type(a);
            case 21: return program.clearText();
            case 22: return program.fault(a);
            default: return program.play();
        }
    }

    private int ofModel(int which, int a, int b, int c) {
        switch (which) {
            case 0: return model.island(a);
            case 1: return model.bridge(a, b, c);
            case 2: return model.send(a, b);
            case 3: return model.recall(a);
            case 4: return model.pay(a);
            case 5: return model.days(a);
            case 6: return model.set(a, b);
            case 7: return model.bridgeOf(a, b);
            case 8: return model.islandOf(a, b);
            case 9: return model.reach(a);
            case 10: return model.book(a, b);
            case 11: return model.why(a, b);
            case 12: return model.best();
            case 13: return model.rustsIn(a);
            case 14: return model.paintedIn(a);
            case 15: return model.aloneIn();
            case 16: return model.ifDays(a);
            case 17: return model.mean();
            case 18: return model.count(a);
            case 19: return model.undo();
            case 20: return model.type(a);
            case 21: return model.clearText();
            case 22: return model.fault(a);
            default: return model.play();
        }
    }
}
