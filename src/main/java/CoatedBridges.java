/** Painted bridges that are closed so that no island is alone for long. README.md says where the promises stand. */
public final class CoatedBridges {
    public static final int INVALID_ARGUMENT = -1000001;
    public static final int NOT_POSSIBLE = -1000002;
    public static final int LIMIT_REACHED = -1000003;
    public static final int NOT_FOUND = -1000004;

    private static final int MAX_ISLANDS = 8;
    private static final int MAX_BRIDGES = 14;
    private static final int MAX_CREWS = 4;
    private static final int MAX_WEAR = 9;
    private static final int MAX_FARE = 99;
    private static final int MAX_PAY = 999;
    private static final int MAX_PURSE = 999999;
    private static final int MAX_DAYS = 99;
    private static final int LAST_DAY = 9999;
    private static final int FORESIGHT = 200;
    private static final int MAX_HISTORY = 4;
    private static final int MAX_BOOK = 8;
    private static final int MAX_TEXT = 60;
    private static final int MAX_DIGITS = 3;
    private static final int MAX_NUMBERS = 3;

    private static final int FIRST_COINS = 200;
    private static final int FULL_COAT = 100;
    private static final int MAINLAND = 0;
    private static final int NO_BRIDGE = -1;

    private static final int OPEN = 0;
    private static final int PAINTED = 1;
    private static final int RUSTED = 2;

    private static final int CREWS = 0;
    private static final int DAILY_COAT = 1;
    private static final int PAINT_COINS = 2;
    private static final int FERRIES = 3;
    private static final int BORNE_WAIT = 4;
    private static final int DAILY_COINS = 5;
    private static final int CREWS_GO = 6;
    private static final int CREWS_GO_AT = 7;
    private static final int SETTINGS = 8;
    private static final int[] LOWEST_SETTINGS = {0, 1, 0, 0, 0, 0, 0, 0};
    private static final int[] HIGHEST_SETTINGS = {4, 100, 99, 1, 30, 99, 1, 99};
    private static final int[] FIRST_SETTINGS = {1, 30, 10, 0, 3, 12, 0, 40};

    private static final int FREE_TO_SEND = 0;
    private static final int IS_PAINTED = 1;
    private static final int COAT_IS_FULL = 2;
    private static final int NO_FREE_CREW = 3;
    private static final int ISLAND_ALONE = 4;

    private static final int NOT_OF_THE_FORM = 1;
    private static final int CALL_HAS_ERROR = 2;

    private static final int COUNT_OF_SETTINGS = 20;
    private static final int COUNTS = 28;

    private State state = new State();
    // Each change is tried here first, so that a call with an error leaves the state as it was.
    private State trial = new State();
    // Made once and used in turn, so that no call makes objects.
    private final State[] history = new State[MAX_HISTORY];
    private int historyLength;

    private final Text text = new Text();
    private int faultPosition;
    private int faultReason;
    private int faultCause;

    public CoatedBridges() {
        for (int i = 0; i < MAX_HISTORY; i++) {
            history[i] = new State();
        }
    }

    // ---- islands, bridges

    public int island(int fare) {
        return settle(startTrial().addIsland(fare));
    }

    public int bridge(int one, int other, int wear) {
        return settle(startTrial().addBridge(one, other, wear));
    }

    public int send(int bridge, int force) {
        return settle(startTrial().sendCrew(bridge, force));
    }

    public int recall(int bridge) {
        return settle(startTrial().callBack(bridge));
    }

    public int pay(int coins) {
        return settle(startTrial().payIn(coins));
    }

    public int days(int many) {
        return settle(startTrial().endDays(many));
    }

    public int set(int what, int value) {
        return settle(startTrial().changeSetting(what, value));
    }

    // ---- what there is

    public int bridgeOf(int bridge, int what) {
        if (!state.hasBridge(bridge)) {
            return INVALID_ARGUMENT;
        }
        Bridge asked = state.bridges[bridge];
        switch (what) {
            case 0: return asked.one;
            case 1: return asked.other;
            case 2: return asked.wear;
            case 3: return asked.coat;
            case 4: return asked.condition;
            case 5: return asked.timesSent;
            case 6: return asked.closedDays;
            case 7: return asked.paintCoins;
            case 8: return holds(state.neededBridges(), bridge) ? 1 : 0;
            default: return INVALID_ARGUMENT;
        }
    }

    public int islandOf(int island, int what) {
        if (!state.hasIsland(island)) {
            return INVALID_ARGUMENT;
        }
        Island asked = state.islands[island];
        switch (what) {
            case 0: return holds(state.reachFrom(MAINLAND, NO_BRIDGE), island) ? 1 : 0;
            case 1: return asked.waited;
            case 2: return asked.fare;
            case 3: return asked.complaints;
            case 4: return asked.longestWait;
            case 5: return asked.ferryDays;
            case 6: return state.openBridgesAt(island);
            case 7: return state.bridgesTo(island);
            default: return INVALID_ARGUMENT;
        }
    }

    public int reach(int island) {
        return state.hasIsland(island) ? state.reachFrom(island, NO_BRIDGE) : INVALID_ARGUMENT;
    }

    public int book(int ago, int what) {
        if (ago < 0 || what < 0 || what > 1) {
            return INVALID_ARGUMENT;
        }
        return what == 0 ? state.complaintBook.dayAgo(ago) : state.complaintBook.complaintsAgo(ago);
    }

    // ---- what would be

    public int why(int bridge, int what) {
        if (!state.hasBridge(bridge) || what < 0 || what > 1) {
            return INVALID_ARGUMENT;
        }
        int reason = state.reasonAgainst(bridge);
        if (what == 0) {
            return reason;
        }
        return reason == ISLAND_ALONE ? lowestIn(state.lostWithout(bridge)) : NOT_FOUND;
    }

    public int best() {
        return state.bridgeToPaintNext();
    }

    public int rustsIn(int bridge) {
        if (!state.hasBridge(bridge)) {
            return INVALID_ARGUMENT;
        }
        Bridge asked = state.bridges[bridge];
        return asked.condition == PAINTED ? NOT_POSSIBLE : asked.daysUntilRusted();
    }

    public int paintedIn(int bridge) {
        if (!state.hasBridge(bridge)) {
            return INVALID_ARGUMENT;
        }
        if (state.bridges[bridge].condition != PAINTED) {
            return NOT_POSSIBLE;
        }
        State future = startTrial();
        for (int day = 1; day <= FORESIGHT; day++) {
            future.endDay();
            if (future.bridges[bridge].condition == OPEN) {
                return day;
            }
        }
        return NOT_FOUND;
    }

    public int aloneIn() {
        int reachedNow = state.reachFrom(MAINLAND, NO_BRIDGE);
        State future = startTrial();
        for (int day = 1; day <= FORESIGHT; day++) {
            future.endDay();
            if ((reachedNow & ~future.reachFrom(MAINLAND, NO_BRIDGE)) != 0) {
                return day;
            }
        }
        return NOT_FOUND;
    }

    public int ifDays(int many) {
        if (many < 1 || many > MAX_DAYS) {
            return INVALID_ARGUMENT;
        }
        State future = startTrial();
        int complaints = 0;
        for (int i = 0; i < many; i++) {
            complaints += future.endDay();
        }
        return complaints;
    }

    public int mean() {
        if (state.bridgeCount == 0) {
            return NOT_FOUND;
        }
        return bitsOf((float) state.coatsTogether() / (float) state.bridgeCount);
    }

    public int count(int what) {
        if (what < 0 || what >= COUNTS) {
            return INVALID_ARGUMENT;
        }
        if (what >= COUNT_OF_SETTINGS) {
            return state.settings[what - COUNT_OF_SETTINGS];
        }
        switch (what) {
            case 0: return state.now;
            case 1: return state.islandCount;
            case 2: return state.bridgeCount;
            case 3: return state.reachFrom(MAINLAND, NO_BRIDGE);
            case 4: return state.bridgesThatAre(OPEN);
            case 5: return state.bridgesThatAre(PAINTED);
            case 6: return state.bridgesThatAre(RUSTED);
            case 7: return state.neededBridges();
            case 8: return state.groups();
            case 9: return state.lowestOnes();
            case 10: return state.freeCrews();
            case 11: return state.complaintsSoFar();
            case 12: return state.longestWaitSoFar();
            case 13: return state.purse;
            case 14: return state.paintCoins;
            case 15: return state.ferryCoins;
            case 16: return state.comeCoins;
            case 17: return state.complaintBook.length;
            case 18: return historyLength;
            default: return text.length;
        }
    }

    public int undo() {
        if (historyLength == 0) {
            return NOT_POSSIBLE;
        }
        historyLength--;
        State spare = state;
        state = history[historyLength];
        history[historyLength] = spare;
        return historyLength;
    }

    // ---- texts

    public int type(int character) {
        if (character < 32 || character > 126) {
            return INVALID_ARGUMENT;
        }
        return text.append((char) character) ? text.length : LIMIT_REACHED;
    }

    public int clearText() {
        int before = text.length;
        text.length = 0;
        return before;
    }

    public int fault(int what) {
        if (what < 0 || what > 2) {
            return INVALID_ARGUMENT;
        }
        if (obeyText(startTrial()) >= 0) {
            return NOT_FOUND;
        }
        switch (what) {
            case 0: return faultPosition;
            case 1: return faultReason;
            default: return faultCause;
        }
    }

    public int play() {
        return settle(obeyText(startTrial()));
    }

    // ---- changes

    private State startTrial() {
        trial.copyFrom(state);
        return trial;
    }

    /** Makes the trial the state and records the state before it, unless the answer is an error. */
    private int settle(int answer) {
        if (answer < 0) {
            return answer;
        }
        if (historyLength >= MAX_HISTORY) {
            dropOldest();
        }
        State spare = history[historyLength];
        history[historyLength] = state;
        historyLength++;
        state = trial;
        trial = spare;
        return answer;
    }

    /** The oldest state moves behind the others, where its object is used again. */
    private void dropOldest() {
        State oldest = history[0];
        for (int i = 1; i < MAX_HISTORY; i++) {
            history[i - 1] = history[i];
        }
        history[MAX_HISTORY - 1] = oldest;
        historyLength = MAX_HISTORY - 1;
    }

    /** Does the orders of the text one by one and returns how many; NOT_POSSIBLE if there is a fault, which is noted. */
    private int obeyText(State stage) {
        int position = 0;
        int orders = 0;
        while (orders < MAX_TEXT && position < text.length) {
            if (!text.readOrder(position)) {
                noteFault(position, NOT_OF_THE_FORM, text.at - position);
                return NOT_POSSIBLE;
            }
            int answer = obeyOrder(stage);
            if (answer < 0) {
                noteFault(position, CALL_HAS_ERROR, answer);
                return NOT_POSSIBLE;
            }
            position = text.at;
            orders++;
        }
        return orders;
    }

    private void noteFault(int position, int reason, int cause) {
        faultPosition = position;
        faultReason = reason;
        faultCause = cause;
    }

    private int obeyOrder(State stage) {
        int number = text.numbers[0];
        switch (text.kind) {
            case 'i': return stage.addIsland(number);
            case 'b': return stage.addBridge(number, text.numbers[1], text.numbers[2]);
            case 's': return stage.sendCrew(number, 0);
            case 'f': return stage.sendCrew(number, 1);
            case 'r': return stage.callBack(number);
            case 'p': return stage.payIn(number);
            case 'd': return stage.endDays(number);
            default: return INVALID_ARGUMENT;
        }
    }

    // ---- sets and bits

    private static boolean holds(int set, int number) {
        return (set >> number & 1) == 1;
    }

    /** The lowest number in a set that is not empty. */
    private static int lowestIn(int set) {
        return Integer.numberOfTrailingZeros(set);
    }

    /** The bits of a float that is 0 or normal and positive, since LANGUAGE.md leaves no call for them. */
    private static int bitsOf(float number) {
        if (!(number > 0f)) {
            return 0;
        }
        int exponent = 127;
        float rest = number;
        for (int i = 0; i < 127 && rest >= 2f; i++) {
            rest = rest / 2f;
            exponent++;
        }
        for (int i = 0; i < 126 && rest < 1f; i++) {
            rest = rest * 2f;
            exponent--;
        }
        return exponent << 23 | (int) ((rest - 1f) * 8388608f);
    }

    /** An island; its object is used again for another state, so begin() puts all of it back. */
    private static final class Island {
        int fare;
        int waited;
        int longestWait;
        int complaints;
        int ferryDays;

        void begin(int itsFare) {
            fare = itsFare;
            waited = 0;
            longestWait = 0;
            complaints = 0;
            ferryDays = 0;
        }

        void copyFrom(Island from) {
            fare = from.fare;
            waited = from.waited;
            longestWait = from.longestWait;
            complaints = from.complaints;
            ferryDays = from.ferryDays;
        }

        /** Waits one day more; tells whether there is a complaint. */
        boolean waitAlone(int borne) {
            waited++;
            longestWait = Math.max(longestWait, waited);
            if (waited <= borne) {
                return false;
            }
            complaints++;
            return true;
        }
    }

    /** A bridge; its object is used again for another state, so begin() puts all of it back. */
    private static final class Bridge {
        int one;
        int other;
        int ends;
        int wear;
        int coat;
        int condition;
        int timesSent;
        int closedDays;
        int paintCoins;

        void begin(int first, int second, int itsWear) {
            one = first;
            other = second;
            ends = 1 << first | 1 << second;
            wear = itsWear;
            coat = FULL_COAT;
            condition = OPEN;
            timesSent = 0;
            closedDays = 0;
            paintCoins = 0;
        }

        void copyFrom(Bridge from) {
            one = from.one;
            other = from.other;
            ends = from.ends;
            wear = from.wear;
            coat = from.coat;
            condition = from.condition;
            timesSent = from.timesSent;
            closedDays = from.closedDays;
            paintCoins = from.paintCoins;
        }

        void takeCrew() {
            condition = PAINTED;
            timesSent++;
        }

        void loseCrew() {
            condition = coat == 0 ? RUSTED : OPEN;
        }

        void paint(int more, int coins) {
            paintCoins += coins;
            coat = Math.min(coat + more, FULL_COAT);
            if (coat == FULL_COAT) {
                loseCrew();
            }
        }

        void wearOff() {
            coat = Math.max(coat - wear, 0);
            if (coat == 0) {
                condition = RUSTED;
            }
        }

        /** Counts the days instead of dividing: no bridge lasts longer than its full coat with the least wear. */
        int daysUntilRusted() {
            int days = 0;
            while (days < FULL_COAT && days * wear < coat) {
                days++;
            }
            return days;
        }
    }

    /** The latest days with complaints, the oldest of them first. */
    private static final class Book {
        final int[] days = new int[MAX_BOOK];
        final int[] complaints = new int[MAX_BOOK];
        int length;

        void copyFrom(Book from) {
            length = from.length;
            for (int i = 0; i < MAX_BOOK; i++) {
                days[i] = from.days[i];
                complaints[i] = from.complaints[i];
            }
        }

        void note(int day, int many) {
            if (length >= MAX_BOOK) {
                dropFirst();
            }
            days[length] = day;
            complaints[length] = many;
            length++;
        }

        private void dropFirst() {
            for (int i = 1; i < MAX_BOOK; i++) {
                days[i - 1] = days[i];
                complaints[i - 1] = complaints[i];
            }
            length = MAX_BOOK - 1;
        }

        // ago is 0 or more
        int dayAgo(int ago) {
            return ago < length ? days[length - 1 - ago] : NOT_FOUND;
        }

        int complaintsAgo(int ago) {
            return ago < length ? complaints[length - 1 - ago] : NOT_FOUND;
        }
    }

    /** The text, and the order that was read from it last. */
    private static final class Text {
        final char[] characters = new char[MAX_TEXT];
        int length;

        final int[] numbers = new int[MAX_NUMBERS];
        char kind;
        /** Behind the order, or where it breaks off. */
        int at;

        boolean append(char character) {
            if (length >= MAX_TEXT) {
                return false;
            }
            characters[length] = character;
            length++;
            return true;
        }

        /** Tells whether an order of the right form stands at the position, which is within the text. */
        boolean readOrder(int position) {
            at = position;
            kind = characters[at];
            int wanted = numbersOf(kind);
            if (wanted == 0) {
                return false;
            }
            at++;
            for (int i = 0; i < wanted; i++) {
                if (i > 0 && !take(',') || !readNumber(i)) {
                    return false;
                }
            }
            return take(';');
        }

        private static int numbersOf(char kind) {
            switch (kind) {
                case 'b': return MAX_NUMBERS;
                case 'i':
                case 's':
                case 'f':
                case 'r':
                case 'p':
                case 'd': return 1;
                default: return 0;
            }
        }

        private boolean take(char wanted) {
            if (at >= length || characters[at] != wanted) {
                return false;
            }
            at++;
            return true;
        }

        private boolean readNumber(int index) {
            int number = 0;
            int digits = 0;
            while (digits < MAX_DIGITS && atDigit()) {
                number = number * 10 + (characters[at] - '0');
                at++;
                digits++;
            }
            numbers[index] = number;
            return digits > 0;
        }

        private boolean atDigit() {
            return at < length && characters[at] >= '0' && characters[at] <= '9';
        }
    }

    /** All that a change records: islands, bridges, coins, days, settings and the book. */
    private static final class State {
        final Island[] islands = new Island[MAX_ISLANDS];
        final Bridge[] bridges = new Bridge[MAX_BRIDGES];
        final int[] settings = FIRST_SETTINGS.clone();
        final Book complaintBook = new Book();
        int islandCount = 1;
        int bridgeCount;
        int now;
        int purse = FIRST_COINS;
        int paintCoins;
        int ferryCoins;
        int comeCoins;

        State() {
            for (int i = 0; i < MAX_ISLANDS; i++) {
                islands[i] = new Island();
            }
            for (int i = 0; i < MAX_BRIDGES; i++) {
                bridges[i] = new Bridge();
            }
        }

        void copyFrom(State from) {
            islandCount = from.islandCount;
            for (int i = 0; i < islandCount; i++) {
                islands[i].copyFrom(from.islands[i]);
            }
            bridgeCount = from.bridgeCount;
            for (int i = 0; i < bridgeCount; i++) {
                bridges[i].copyFrom(from.bridges[i]);
            }
            for (int i = 0; i < SETTINGS; i++) {
                settings[i] = from.settings[i];
            }
            complaintBook.copyFrom(from.complaintBook);
            now = from.now;
            purse = from.purse;
            paintCoins = from.paintCoins;
            ferryCoins = from.ferryCoins;
            comeCoins = from.comeCoins;
        }

        boolean hasIsland(int island) {
            return island >= 0 && island < islandCount;
        }

        boolean hasBridge(int bridge) {
            return bridge >= 0 && bridge < bridgeCount;
        }

        // ---- the changes; each looks for its errors ahead of the first thing it changes

        int addIsland(int fare) {
            if (fare < 0 || fare > MAX_FARE) {
                return INVALID_ARGUMENT;
            }
            if (islandCount >= MAX_ISLANDS) {
                return LIMIT_REACHED;
            }
            islands[islandCount].begin(fare);
            islandCount++;
            return islandCount - 1;
        }

        int addBridge(int one, int other, int wear) {
            if (!hasIsland(one) || !hasIsland(other) || one == other || wear < 1 || wear > MAX_WEAR) {
                return INVALID_ARGUMENT;
            }
            if (bridgeCount >= MAX_BRIDGES) {
                return LIMIT_REACHED;
            }
            bridges[bridgeCount].begin(one, other, wear);
            bridgeCount++;
            return bridgeCount - 1;
        }

        int sendCrew(int bridge, int force) {
            if (!hasBridge(bridge) || force < 0 || force > 1) {
                return INVALID_ARGUMENT;
            }
            int reason = reasonAgainst(bridge);
            boolean forced = force == 1 && reason == ISLAND_ALONE;
            if (reason != FREE_TO_SEND && !forced) {
                return NOT_POSSIBLE;
            }
            int lost = lostWithout(bridge);
            bridges[bridge].takeCrew();
            return lost;
        }

        int callBack(int bridge) {
            if (!hasBridge(bridge)) {
                return INVALID_ARGUMENT;
            }
            if (bridges[bridge].condition != PAINTED) {
                return NOT_POSSIBLE;
            }
            bridges[bridge].loseCrew();
            return bridges[bridge].coat;
        }

        int payIn(int coins) {
            if (coins < 1 || coins > MAX_PAY) {
                return INVALID_ARGUMENT;
            }
            if (purse + coins > MAX_PURSE) {
                return LIMIT_REACHED;
            }
            receive(coins);
            return purse;
        }

        int changeSetting(int what, int value) {
            if (what < 0 || what >= SETTINGS || value < LOWEST_SETTINGS[what] || value > HIGHEST_SETTINGS[what]) {
                return INVALID_ARGUMENT;
            }
            int before = settings[what];
            settings[what] = value;
            return before;
        }

        int endDays(int many) {
            if (many < 1 || many > MAX_DAYS) {
                return INVALID_ARGUMENT;
            }
            if (now + many > LAST_DAY) {
                return LIMIT_REACHED;
            }
            int complaints = 0;
            for (int i = 0; i < many; i++) {
                complaints += endDay();
            }
            return complaints;
        }

        // ---- a day

        /** Returns the complaints; does not look at the last day, which binds days() but not what would be. */
        int endDay() {
            int openBefore = bridgesThatAre(OPEN);
            paintBridges();
            wearBridges(openBefore);
            int complaints = letIslandsWait();
            if (complaints > 0) {
                complaintBook.note(now, complaints);
            }
            now++;
            receive(settings[DAILY_COINS]);
            for (int i = 0; i < MAX_CREWS && settings[CREWS_GO] == 1; i++) {
                int bridge = bridgeToPaintNext();
                if (!hasBridge(bridge)) {
                    break;
                }
                bridges[bridge].takeCrew();
            }
            return complaints;
        }

        private void paintBridges() {
            int coins = settings[PAINT_COINS];
            for (int i = 0; i < bridgeCount; i++) {
                if (bridges[i].condition == PAINTED && purse >= coins) {
                    purse -= coins;
                    paintCoins += coins;
                    bridges[i].paint(settings[DAILY_COAT], coins);
                }
            }
        }

        private void wearBridges(int openBefore) {
            for (int i = 0; i < bridgeCount; i++) {
                if (holds(openBefore, i)) {
                    bridges[i].wearOff();
                }
                if (bridges[i].condition != OPEN) {
                    bridges[i].closedDays++;
                }
            }
        }

        private int letIslandsWait() {
            int reached = reachFrom(MAINLAND, NO_BRIDGE);
            int complaints = 0;
            for (int i = MAINLAND + 1; i < islandCount; i++) {
                Island island = islands[i];
                if (holds(reached, i)) {
                    island.waited = 0;
                } else if (settings[FERRIES] == 1 && purse >= island.fare) {
                    payFerry(island);
                } else if (island.waitAlone(settings[BORNE_WAIT])) {
                    complaints++;
                }
            }
            return complaints;
        }

        private void payFerry(Island island) {
            purse -= island.fare;
            ferryCoins += island.fare;
            island.ferryDays++;
            island.waited = 0;
        }

        private void receive(int coins) {
            purse += coins;
            comeCoins += coins;
        }

        // ---- crews

        int freeCrews() {
            return Math.max(0, settings[CREWS] - Integer.bitCount(bridgesThatAre(PAINTED)));
        }

        /** The first reason for which no crew is sent to a bridge that there is. */
        int reasonAgainst(int bridge) {
            if (bridges[bridge].condition == PAINTED) {
                return IS_PAINTED;
            }
            if (bridges[bridge].coat == FULL_COAT) {
                return COAT_IS_FULL;
            }
            if (freeCrews() == 0) {
                return NO_FREE_CREW;
            }
            return lostWithout(bridge) == 0 ? FREE_TO_SEND : ISLAND_ALONE;
        }

        /** A coat that is low enough is never full, so that of the four reasons 1, 3 and 4 are left to look at. */
        int bridgeToPaintNext() {
            if (freeCrews() == 0) {
                return NOT_FOUND;
            }
            int reached = reachFrom(MAINLAND, NO_BRIDGE);
            int found = NOT_FOUND;
            int leastCoat = settings[CREWS_GO_AT] + 1;
            for (int i = 0; i < bridgeCount; i++) {
                Bridge bridge = bridges[i];
                if (bridge.condition != PAINTED && bridge.coat < leastCoat && reachFrom(MAINLAND, i) == reached) {
                    leastCoat = bridge.coat;
                    found = i;
                }
            }
            return found;
        }

        // ---- who is reached

        int bridgesThatAre(int condition) {
            int set = 0;
            for (int i = 0; i < bridgeCount; i++) {
                if (bridges[i].condition == condition) {
                    set |= 1 << i;
                }
            }
            return set;
        }

        /** The islands to which one can go from an island, as if one of the bridges were closed. */
        int reachFrom(int island, int without) {
            int set = 1 << island;
            for (int i = 0; i < MAX_ISLANDS; i++) {
                int wider = oneBridgeOn(set, without);
                if (wider == set) {
                    return set;
                }
                set = wider;
            }
            return set;
        }

        private int oneBridgeOn(int from, int without) {
            int set = from;
            for (int i = 0; i < bridgeCount; i++) {
                Bridge bridge = bridges[i];
                if (bridge.condition == OPEN && i != without && (from & bridge.ends) != 0) {
                    set |= bridge.ends;
                }
            }
            return set;
        }

        /** The islands that are reached only as long as the bridge is open. */
        int lostWithout(int bridge) {
            return reachFrom(MAINLAND, NO_BRIDGE) & ~reachFrom(MAINLAND, bridge);
        }

        int neededBridges() {
            int reached = reachFrom(MAINLAND, NO_BRIDGE);
            int set = 0;
            for (int i = 0; i < bridgeCount; i++) {
                if (bridges[i].condition == OPEN && reachFrom(MAINLAND, i) != reached) {
                    set |= 1 << i;
                }
            }
            return set;
        }

        int bridgesTo(int island) {
            int set = 1 << MAINLAND;
            for (int steps = 0; steps < MAX_ISLANDS; steps++) {
                if (holds(set, island)) {
                    return steps;
                }
                set = oneBridgeOn(set, NO_BRIDGE);
            }
            return NOT_FOUND;
        }

        int openBridgesAt(int island) {
            int many = 0;
            for (int i = 0; i < bridgeCount; i++) {
                if (bridges[i].condition == OPEN && holds(bridges[i].ends, island)) {
                    many++;
                }
            }
            return many;
        }

        int groups() {
            int many = 0;
            int grouped = 0;
            for (int i = 0; i < islandCount; i++) {
                if (!holds(grouped, i)) {
                    grouped |= reachFrom(i, NO_BRIDGE);
                    many++;
                }
            }
            return many;
        }

        int lowestOnes() {
            int many = 0;
            for (int i = 0; i < islandCount; i++) {
                if (lowestIn(reachFrom(i, NO_BRIDGE)) == i) {
                    many++;
                }
            }
            return many;
        }

        // ---- sums

        int coatsTogether() {
            int sum = 0;
            for (int i = 0; i < bridgeCount; i++) {
                sum += bridges[i].coat;
            }
            return sum;
        }

        int complaintsSoFar() {
            int sum = 0;
            for (int i = 0; i < islandCount; i++) {
                sum += islands[i].complaints;
            }
            return sum;
        }

        int longestWaitSoFar() {
            int longest = 0;
            for (int i = 0; i < islandCount; i++) {
                longest = Math.max(longest, islands[i].longestWait);
            }
            return longest;
        }
    }
}
