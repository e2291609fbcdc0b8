import java.util.ArrayDeque;
import java.util.ArrayList;
import java.util.List;
import java.util.TreeSet;
import java.util.regex.Matcher;
import java.util.regex.Pattern;

/** The document once more, in other ways than the program's: what ModelRunsTest compares the program with. */
final class Model {
    private static final int[][] RANGES = {
        {0, 4}, {1, 100}, {0, 99}, {0, 1}, {0, 30}, {0, 99}, {0, 1}, {0, 99},
    };
    private static final Pattern ORDER =
        Pattern.compile("([isfrpd])([0-9]{1,3});|b([0-9]{1,3}),([0-9]{1,3}),([0-9]{1,3});");
    private static final String[] BEGINNINGS = {
        "[isfrpd]", "[isfrpd][0-9]{1,3}", "[isfrpd][0-9]{1,3};",
        "b", "b[0-9]{1,3}", "b[0-9]{1,3},", "b[0-9]{1,3},[0-9]{1,3}", "b[0-9]{1,3},[0-9]{1,3},",
        "b[0-9]{1,3},[0-9]{1,3},[0-9]{1,3}", "b[0-9]{1,3},[0-9]{1,3},[0-9]{1,3};",
    };

    private static final class Isle {
        int fare;
        int wait;
        int longest;
        int complaints;
        int ferries;
    }

    private static final class Span {
        int one;
        int other;
        int wear;
        int coat = 100;
        boolean crew;
        int sent;
        int closed;
        int paid;

        boolean open() {
            return !crew && coat > 0;
        }
    }

    private static final class World {
        List<Isle> isles = new ArrayList<>();
        List<Span> spans = new ArrayList<>();
        List<int[]> book = new ArrayList<>();
        int[] settings = {1, 30, 10, 0, 3, 12, 0, 40};
        int now;
        int purse = 200;
        int came;

        World copy() {
            World w = new World();
            for (Isle i : isles) {
                Isle c = new Isle();
                c.fare = i.fare;
                c.wait = i.wait;
                c.longest = i.longest;
                c.complaints = i.complaints;
                c.ferries = i.ferries;
                w.isles.add(c);
            }
            for (Span s : spans) {
                Span c = new Span();
                c.one = s.one;
                c.other = s.other;
                c.wear = s.wear;
                c.coat = s.coat;
                c.crew = s.crew;
                c.sent = s.sent;
                c.closed = s.closed;
                c.paid = s.paid;
                w.spans.add(c);
            }
            w.book.addAll(book);
            w.settings = settings.clone();
            w.now = now;
            w.purse = purse;
            w.came = came;
            return w;
        }

        /** The fewest bridges from each island to each, 99 without a way, by Floyd and Warshall. */
        int[][] ways(int closed) {
            int n = isles.size();
            int[][] way = new int[n][n];
            for (int a = 0; a < n; a++) {
                for (int b = 0; b < n; b++) {
                    way[a][b] = a == b ? 0 : 99;
                }
            }
            for (int s = 0; s < spans.size(); s++) {
                Span span = spans.get(s);
                if (span.open() && s != closed) {
                    way[span.one][span.other] = 1;
                    way[span.other][span.one] = 1;
                }
            }
            for (int c = 0; c < n; c++) {
                for (int a = 0; a < n; a++) {
                    for (int b = 0; b < n; b++) {
                        way[a][b] = Math.min(way[a][b], way[a][c] + way[c][b]);
                    }
                }
            }
            return way;
        }

        TreeSet<Integer> lost(int closed) {
            TreeSet<Integer> lost = new TreeSet<>();
            int[] before = ways(-1)[0];
            int[] then = ways(closed)[0];
            for (int i = 0; i < before.length; i++) {
                if (before[i] < 99 && then[i] >= 99) {
                    lost.add(i);
                }
            }
            return lost;
        }

        int crewsOut() {
            int out = 0;
            for (Span s : spans) {
                out += s.crew ? 1 : 0;
            }
            return out;
        }

        int reason(int bridge) {
            Span s = spans.get(bridge);
            if (s.crew) {
                return 1;
            }
            if (s.coat == 100) {
                return 2;
            }
            if (crewsOut() >= settings[0]) {
                return 3;
            }
            return lost(bridge).isEmpty() ? 0 : 4;
        }

        int best() {
            for (int coat = 0; coat <= settings[7]; coat++) {
                for (int b = 0; b < spans.size(); b++) {
                    if (spans.get(b).coat == coat && reason(b) == 0) {
                        return b;
                    }
                }
            }
            return Check.NOT_FOUND;
        }

        int day() {
            List<Span> wereOpen = new ArrayList<>();
            for (Span s : spans) {
                if (s.open()) {
                    wereOpen.add(s);
                }
            }
            for (Span s : spans) {
                if (s.crew && purse >= settings[2]) {
                    purse -= settings[2];
                    s.paid += settings[2];
                    s.coat = Math.min(100, s.coat + settings[1]);
                    s.crew = s.coat < 100;
                }
            }
            for (Span s : wereOpen) {
                s.coat = Math.max(0, s.coat - s.wear);
            }
            for (Span s : spans) {
                s.closed += s.open() ? 0 : 1;
            }
            int complaints = 0;
            int[] fromMainland = ways(-1)[0];
            for (int i = 1; i < isles.size(); i++) {
                Isle isle = isles.get(i);
                if (fromMainland[i] < 99) {
                    isle.wait = 0;
                    continue;
                }
                if (settings[3] == 1 && purse >= isle.fare) {
                    purse -= isle.fare;
                    isle.ferries++;
                    isle.wait = 0;
                    continue;
                }
                isle.wait++;
                isle.longest = Math.max(isle.longest, isle.wait);
                if (isle.wait > settings[4]) {
                    isle.complaints++;
                    complaints++;
                }
            }
            if (complaints > 0) {
                book.add(0, new int[] {now, complaints});
            }
            now++;
            purse += settings[5];
            came += settings[5];
            while (settings[6] == 1 && best() >= 0) {
                Span s = spans.get(best());
                s.crew = true;
                s.sent++;
            }
            return complaints;
        }

        int doIsland(int fare) {
            if (fare < 0 || fare > 99) {
                return Check.INVALID;
            }
            if (isles.size() == 8) {
                return Check.LIMIT;
            }
            Isle isle = new Isle();
            isle.fare = fare;
            isles.add(isle);
            return isles.size() - 1;
        }

        int doBridge(int one, int other, int wear) {
            int n = isles.size();
            if (one < 0 || one >= n || other < 0 || other >= n || one == other || wear < 1 || wear > 9) {
                return Check.INVALID;
            }
            if (spans.size() == 14) {
                return Check.LIMIT;
            }
            Span s = new Span();
            s.one = one;
            s.other = other;
            s.wear = wear;
            spans.add(s);
            return spans.size() - 1;
        }

        int doSend(int bridge, int force) {
            if (bridge < 0 || bridge >= spans.size() || force != 0 && force != 1) {
                return Check.INVALID;
            }
            int reason = reason(bridge);
            if (reason == 4 && force == 0 || reason > 0 && reason < 4) {
                return Check.NOT_POSSIBLE;
            }
            int set = bits(lost(bridge));
            spans.get(bridge).crew = true;
            spans.get(bridge).sent++;
            return set;
        }

        int doRecall(int bridge) {
            if (bridge < 0 || bridge >= spans.size()) {
                return Check.INVALID;
            }
            Span s = spans.get(bridge);
            if (!s.crew) {
                return Check.NOT_POSSIBLE;
            }
            s.crew = false;
            return s.coat;
        }

        int doPay(int coins) {
            if (coins < 1 || coins > 999) {
                return Check.INVALID;
            }
            if (purse + coins > 999999) {
                return Check.LIMIT;
            }
            purse += coins;
            came += coins;
            return purse;
        }

        int doDays(int many) {
            if (many < 1 || many > 99) {
                return Check.INVALID;
            }
            if (now + many > 9999) {
                return Check.LIMIT;
            }
            int complaints = 0;
            for (int i = 0; i < many; i++) {
                complaints += day();
            }
            return complaints;
        }

        int doSet(int what, int value) {
            if (what < 0 || what > 7 || value < RANGES[what][0] || value > RANGES[what][1]) {
                return Check.INVALID;
            }
            int before = settings[what];
            settings[what] = value;
            return before;
        }
    }

    private World world = new World();
    private final ArrayDeque<World> history = new ArrayDeque<>();
    private String text = "";
    private int[] fault;

    Model() {
        world.isles.add(new Isle());
    }

    private static int bits(Iterable<Integer> numbers) {
        int set = 0;
        for (int k : numbers) {
            set += 1 << k;
        }
        return set;
    }

    private int changed(World next, int answer) {
        if (answer <= Check.INVALID && answer >= Check.NOT_FOUND) {
            return answer;
        }
        history.addLast(world);
        if (history.size() == 5) {
            history.removeFirst();
        }
        world = next;
        return answer;
    }

    private boolean isBridge(int bridge) {
        return bridge >= 0 && bridge < world.spans.size();
    }

    int island(int fare) {
        World next = world.copy();
        return changed(next, next.doIsland(fare));
    }

    int bridge(int one, int other, int wear) {
        World next = world.copy();
        return changed(next, next.doBridge(one, other, wear));
    }

    int send(int bridge, int force) {
        World next = world.copy();
        return changed(next, next.doSend(bridge, force));
    }

    int recall(int bridge) {
        World next = world.copy();
        return changed(next, next.doRecall(bridge));
    }

    int pay(int coins) {
        World next = world.copy();
        return changed(next, next.doPay(coins));
    }

    int days(int many) {
        World next = world.copy();
        return changed(next, next.doDays(many));
    }

    int set(int what, int value) {
        World next = world.copy();
        return changed(next, next.doSet(what, value));
    }

    int bridgeOf(int bridge, int what) {
        if (!isBridge(bridge) || what < 0 || what > 8) {
            return Check.INVALID;
        }
        Span s = world.spans.get(bridge);
        int condition = s.crew ? 1 : s.coat == 0 ? 2 : 0;
        int needed = s.open() && !world.lost(bridge).isEmpty() ? 1 : 0;
        return new int[] {s.one, s.other, s.wear, s.coat, condition, s.sent, s.closed, s.paid, needed}[what];
    }

    int islandOf(int island, int what) {
        if (island < 0 || island >= world.isles.size() || what < 0 || what > 7) {
            return Check.INVALID;
        }
        Isle i = world.isles.get(island);
        int there = 0;
        for (Span s : world.spans) {
            there += s.open() && (s.one == island || s.other == island) ? 1 : 0;
        }
        int way = world.ways(-1)[0][island];
        int far = way < 99 ? way : Check.NOT_FOUND;
        int reached = way < 99 ? 1 : 0;
        return new int[] {reached, i.wait, i.fare, i.complaints, i.longest, i.ferries, there, far}[what];
    }

    int reach(int island) {
        if (island < 0 || island >= world.isles.size()) {
            return Check.INVALID;
        }
        TreeSet<Integer> set = new TreeSet<>();
        int[] way = world.ways(-1)[island];
        for (int i = 0; i < way.length; i++) {
            if (way[i] < 99) {
                set.add(i);
            }
        }
        return bits(set);
    }

    int book(int ago, int what) {
        if (ago < 0 || what < 0 || what > 1) {
            return Check.INVALID;
        }
        return ago < 8 && ago < world.book.size() ? world.book.get(ago)[what] : Check.NOT_FOUND;
    }

    int why(int bridge, int what) {
        if (!isBridge(bridge) || what < 0 || what > 1) {
            return Check.INVALID;
        }
        int reason = world.reason(bridge);
        if (what == 0) {
            return reason;
        }
        return reason == 4 ? world.lost(bridge).first() : Check.NOT_FOUND;
    }

    int best() {
        return world.best();
    }

    int rustsIn(int bridge) {
        if (!isBridge(bridge)) {
            return Check.INVALID;
        }
        if (world.spans.get(bridge).crew) {
            return Check.NOT_POSSIBLE;
        }
        World then = world.copy();
        then.settings[6] = 0;
        int days = 0;
        while (then.spans.get(bridge).coat > 0) {
            then.day();
            days++;
        }
        return days;
    }

    int paintedIn(int bridge) {
        if (!isBridge(bridge)) {
            return Check.INVALID;
        }
        if (!world.spans.get(bridge).crew) {
            return Check.NOT_POSSIBLE;
        }
        World then = world.copy();
        int days = 0;
        while (then.spans.get(bridge).crew && days < 201) {
            then.day();
            days++;
        }
        return days < 201 ? days : Check.NOT_FOUND;
    }

    int aloneIn() {
        int before = reach(0);
        Model then = new Model();
        then.world = world.copy();
        for (int days = 1; days <= 200; days++) {
            then.world.day();
            if ((before & then.reach(0)) != before) {
                return days;
            }
        }
        return Check.NOT_FOUND;
    }

    int ifDays(int many) {
        World then = world.copy();
        then.now = 0;
        return then.doDays(many);
    }

    int mean() {
        if (world.spans.isEmpty()) {
            return Check.NOT_FOUND;
        }
        int sum = 0;
        for (Span s : world.spans) {
            sum += s.coat;
        }
        return Float.floatToIntBits((float) sum / (float) world.spans.size());
    }

    int count(int what) {
        if (what < 0 || what > 27) {
            return Check.INVALID;
        }
        if (what >= 20) {
            return world.settings[what - 20];
        }
        TreeSet<Integer> open = new TreeSet<>();
        TreeSet<Integer> painted = new TreeSet<>();
        TreeSet<Integer> rusted = new TreeSet<>();
        TreeSet<Integer> needed = new TreeSet<>();
        int paint = 0;
        for (int b = 0; b < world.spans.size(); b++) {
            Span s = world.spans.get(b);
            (s.crew ? painted : s.coat == 0 ? rusted : open).add(b);
            if (bridgeOf(b, 8) == 1) {
                needed.add(b);
            }
            paint += s.paid;
        }
        TreeSet<Integer> groups = new TreeSet<>();
        int complaints = 0;
        int longest = 0;
        int ferries = 0;
        for (int i = 0; i < world.isles.size(); i++) {
            Isle isle = world.isles.get(i);
            groups.add(reach(i));
            complaints += isle.complaints;
            longest = Math.max(longest, isle.longest);
            ferries += isle.ferries * isle.fare;
        }
        int free = Math.max(0, world.settings[0] - painted.size());
        return new int[] {
            world.now, world.isles.size(), world.spans.size(), reach(0), bits(open), bits(painted), bits(rusted),
            bits(needed), groups.size(), groups.size(), free, complaints, longest, 200 + world.came - paint - ferries,
            paint, ferries, world.came, Math.min(8, world.book.size()), history.size(), text.length(),
        }[what];
    }

    int undo() {
        if (history.isEmpty()) {
            return Check.NOT_POSSIBLE;
        }
        world = history.removeLast();
        return history.size();
    }

    int type(int character) {
        if (character < 32 || character > 126) {
            return Check.INVALID;
        }
        if (text.length() == 60) {
            return Check.LIMIT;
        }
        text += (char) character;
        return text.length();
    }

    int clearText() {
        int length = text.length();
        text = "";
        return length;
    }

    /** The longest beginning of a text that an order can begin with. */
    private static int breaksOff(String order) {
        for (int length = Math.min(order.length(), 13); length > 0; length--) {
            for (String beginning : BEGINNINGS) {
                if (Pattern.matches(beginning, order.substring(0, length))) {
                    return length;
                }
            }
        }
        return 0;
    }

    private int obey(World next) {
        fault = null;
        int orders = 0;
        int at = 0;
        Matcher m = ORDER.matcher(text);
        while (at < text.length()) {
            if (!m.region(at, text.length()).lookingAt()) {
                fault = new int[] {at, 1, breaksOff(text.substring(at))};
                return Check.NOT_POSSIBLE;
            }
            int answer;
            if (m.group(1) == null) {
                answer = next.doBridge(number(m, 3), number(m, 4), number(m, 5));
            } else {
                int n = number(m, 2);
                switch (m.group(1)) {
                    case "i": answer = next.doIsland(n); break;
                    case "s": answer = next.doSend(n, 0); break;
                    case "f": answer = next.doSend(n, 1); break;
                    case "r": answer = next.doRecall(n); break;
                    case "p": answer = next.doPay(n); break;
                    default: answer = next.doDays(n); break;
                }
            }
            if (answer < 0) {
                fault = new int[] {at, 2, answer};
                return Check.NOT_POSSIBLE;
            }
            at = m.end();
            orders++;
        }
        return orders;
    }

    private static int number(Matcher m, int group) {
        return Integer.parseInt(m.group(group));
    }

    int fault(int what) {
        if (what < 0 || what > 2) {
            return Check.INVALID;
        }
        obey(world.copy());
        return fault == null ? Check.NOT_FOUND : fault[what];
    }

    int play() {
        World next = world.copy();
        return changed(next, obey(next));
    }
}
