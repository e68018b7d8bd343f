/**
 * A field of corn that is cut along one way, which never crosses itself.
 * The document DOC.md says what every call promises; the words in its capitals
 * (PLACE, WAY, END, LOCKED ..) are the ones that the names and comments here use.
 */
public final class CornWay {
    public static final int UNKNOWN = -1, OUTSIDE = -2, STATE = -3, FULL = -4, NO = -5, NONE = -6;

    private static final int MOST_SIDE = 5;
    private static final int MOST_PLACES = 16;
    private static final int MOST_SIGNS = 40;
    private static final int FIRST_SIGN = 33;
    private static final int LAST_SIGN = 126;
    private static final int MOST_SPILL = 9;
    private static final int MOST_STORM = 20;
    private static final int MOST_ON = 12;
    private static final int MOST_SHARED = 12;
    private static final int MOST_SEED = 9999;
    private static final int IMAGES = 2;
    private static final int GAME_MORE = 1000;

    private static final int STEPS = 4;
    private static final int[] STEP_SIGNS = {'n', 'e', 's', 'w'};
    private static final int[] STEP_ROWS = {-1, 0, 1, 0};
    private static final int[] STEP_COLUMNS = {0, 1, 0, -1};

    private static final int BEYOND = -1;
    private static final int STONE = -1;
    private static final int WHY_BEYOND = 1;
    private static final int WHY_STONE = 2;
    private static final int WHY_CUT = 3;
    /** What followPad answers when the WAY on the PAD can be: no refusal has this number. */
    private static final int CAN_BE = 0;

    /** From one PLACE there are some thousand WAYS at most; no search comes near this. */
    private static final int MOST_WAYS = 1000000;
    /** Two reapers cut 11 PLACES more, and may stand before each: no play is as long as this. */
    private static final int MOST_TURNS = 30;

    private final int[] pad = new int[MOST_SIGNS];
    private int signs;
    private final Field corn = new Field();
    private final Field[] images = new Field[IMAGES];

    private final Walk padWay = new Walk();
    private final Ways ways = new Ways();
    private final Chosen stormy = new Chosen();

    // What has been found out about the FIELD is kept until the FIELD changes, since
    // callers ask for a way step by step, and every answer would search anew.
    private boolean waysKnown;
    private final Chosen longestWay = new Chosen();
    private final Chosen bestWay = new Chosen();
    private final int[] allEnding = new int[MOST_PLACES];
    private boolean whereKnown;
    private int wherePlace;
    private int whereLongest;
    private boolean togetherKnown;
    private int togetherCut;
    private boolean apartKnown;
    private int apartLead;

    public CornWay() {
        corn.lay(3, 3);
    }

    // ---- 1 fields

    public int field(int rows, int columns) {
        if (rows < 1 || rows > MOST_SIDE || columns < 1 || columns > MOST_SIDE) {
            return OUTSIDE;
        }
        if (rows * columns > MOST_PLACES) {
            return OUTSIDE;
        }
        corn.lay(rows, columns);
        forget();
        return corn.places;
    }

    public int say(int sign) {
        if (sign < FIRST_SIGN || sign > LAST_SIGN) {
            return OUTSIDE;
        }
        if (signs >= MOST_SIGNS) {
            return FULL;
        }
        pad[signs] = sign;
        signs++;
        return signs;
    }

    public int wipe() {
        int were = signs;
        signs = 0;
        return were;
    }

    public int fault(int how) {
        if (how == 0) {
            return fieldFault();
        }
        if (how == 1) {
            return wayFault();
        }
        return OUTSIDE;
    }

    public int sow() {
        // A text with a FAULT is no FIELD, so that it can't be one of stones alone.
        if (fieldFault() != NONE) {
            return NO;
        }
        if (padIsAllStones()) {
            return STATE;
        }
        corn.sowFrom(pad);
        signs = 0;
        forget();
        return Integer.bitCount(corn.open);
    }

    public int ears(int place) {
        if (!corn.hasPlace(place)) {
            return UNKNOWN;
        }
        return corn.isOpen(place) ? corn.earsAt[place] : NONE;
    }

    public int begin(int place) {
        if (!corn.hasPlace(place)) {
            return UNKNOWN;
        }
        if (!corn.isOpen(place)) {
            return STATE;
        }
        int was = corn.beginning;
        corn.beginning = place;
        forget();
        return was;
    }

    public int spill(int v) {
        if (v < 0 || v > MOST_SPILL) {
            return OUTSIDE;
        }
        int was = corn.spilt;
        corn.spilt = v;
        forget();
        return was;
    }

    // ---- 2 ways

    public int judge(int what) {
        if (what < 0 || what > 1) {
            return OUTSIDE;
        }
        int refusal = followPad();
        if (refusal == NO) {
            return NO;
        }
        if (refusal == CAN_BE) {
            return NONE;
        }
        return what == 0 ? padWay.steps : padWay.why;
    }

    public int way(int what) {
        if (what < 0 || what > 6) {
            return OUTSIDE;
        }
        int refusal = followPad();
        if (refusal != CAN_BE) {
            return refusal;
        }
        switch (what) {
            case 0:
                return padWay.end;
            case 1:
                return padWay.steps + 1;
            case 2:
                return corn.earsOf(padWay.cut(corn));
            case 3:
                return padWay.free & ~corn.reach(padWay.end, padWay.free);
            case 4:
                return corn.isBlind(padWay.end, padWay.free) ? 1 : 0;
            case 5:
                return padWay.brought;
            default:
                return padWay.cut(corn);
        }
    }

    // ---- 3 longest, best

    public int longest(int i) {
        lookAtAllWays();
        return i == -1 ? longestWay.worth : longestWay.signOf(i);
    }

    public int all(int place) {
        if (place != -1 && !corn.hasPlace(place)) {
            return UNKNOWN;
        }
        lookAtAllWays();
        if (place != -1) {
            return allEnding[place];
        }
        int sum = 0;
        for (int p = 0; p < MOST_PLACES; p++) {
            sum += allEnding[p];
        }
        return sum;
    }

    public int bound() {
        return corn.boundFrom(corn.beginning);
    }

    public int best(int i) {
        lookAtAllWays();
        return i == -1 ? bestWay.worth : bestWay.signOf(i);
    }

    public int storm(int k, int what) {
        if (k < 0 || k > MOST_STORM || what < 0 || what > 1) {
            return OUTSIDE;
        }
        int refusal = followPad();
        if (refusal != CAN_BE) {
            return refusal;
        }
        stormy.clear();
        ways.goOn(corn, padWay, k);
        for (int n = 0; n < MOST_WAYS && ways.next(); n++) {
            stormy.offer(ways, ways.brought());
        }
        return what == 0 ? stormy.worth : stormy.signOf(0);
    }

    // ---- 4 two, where, on

    public int two() {
        if (Integer.bitCount(corn.open) > MOST_SHARED) {
            return FULL;
        }
        if (!togetherKnown) {
            int start = corn.beginning;
            int free = corn.freeFrom(start);
            // What nobody can come to is left out, so that "all that is free" can be reached.
            togetherCut = 1 + cutTogether(corn, start, start, free & corn.reach(start, free), 0);
            togetherKnown = true;
        }
        return togetherCut;
    }

    public int game() {
        if (Integer.bitCount(corn.open) > MOST_SHARED) {
            return FULL;
        }
        if (!apartKnown) {
            int start = corn.beginning;
            apartLead = leadApart(corn, start, start, corn.freeFrom(start), 0);
            apartKnown = true;
        }
        return GAME_MORE + apartLead;
    }

    public int where(int what) {
        if (what < 0 || what > 1) {
            return OUTSIDE;
        }
        if (!whereKnown) {
            lookWhere();
        }
        return what == 0 ? wherePlace : whereLongest;
    }

    public int last() {
        lookAtAllWays();
        int bits = 0;
        for (int p = 0; p < MOST_PLACES; p++) {
            if (allEnding[p] > 0) {
                bits |= 1 << p;
            }
        }
        return bits;
    }

    public int goesOn(int k) {
        if (k < 0 || k > MOST_ON) {
            return OUTSIDE;
        }
        int refusal = followPad();
        if (refusal != CAN_BE) {
            return refusal;
        }
        int count = 0;
        ways.goOn(corn, padWay, k);
        for (int n = 0; n < MOST_WAYS && ways.next(); n++) {
            if (ways.depth == k) {
                count++;
            }
        }
        return count;
    }

    public int drawn(int seed, int what) {
        if (seed < 0 || seed > MOST_SEED || what < 0 || what > 1) {
            return OUTSIDE;
        }
        int x = seed;
        int at = corn.beginning;
        int free = corn.freeFrom(at);
        int cut = 1;
        while (cut < MOST_PLACES && !corn.isBlind(at, free)) {
            x = (75 * x + 74) % 65537;
            at = corn.stepNumbered(at, free, x);
            free &= ~(1 << at);
            cut++;
        }
        return what == 0 ? cut : at;
    }

    public int image(int n) {
        if (n < 0 || n >= IMAGES) {
            return OUTSIDE;
        }
        if (images[n] == null) {
            images[n] = new Field();
        }
        images[n].becomeLike(corn);
        return 1;
    }

    public int restore(int n) {
        if (n < 0 || n >= IMAGES) {
            return OUTSIDE;
        }
        if (images[n] == null) {
            return STATE;
        }
        corn.becomeLike(images[n]);
        forget();
        return 1;
    }

    public int told(int what) {
        switch (what) {
            case 0:
                return signs;
            case 1:
                return corn.rows;
            case 2:
                return corn.columns;
            case 3:
                return Integer.bitCount(corn.open);
            case 4:
                return corn.beginning;
            case 5:
                return corn.spilt;
            default:
                return OUTSIDE;
        }
    }

    // ---- the PAD

    private int fieldFault() {
        for (int i = 0; i < signs; i++) {
            boolean canStand = pad[i] == '#' || (pad[i] >= '0' && pad[i] <= '9');
            if (i >= corn.places || !canStand) {
                return i;
            }
        }
        return signs < corn.places ? signs : NONE;
    }

    private int wayFault() {
        for (int i = 0; i < signs; i++) {
            if (stepOfSign(pad[i]) < 0) {
                return i;
            }
        }
        return NONE;
    }

    private boolean padIsAllStones() {
        for (int i = 0; i < signs; i++) {
            if (pad[i] != '#') {
                return false;
            }
        }
        return true;
    }

    /** Goes along the WAY on the PAD: CAN_BE, NO or STATE. A text with a FAULT has no STEPS to judge. */
    private int followPad() {
        if (wayFault() != NONE) {
            return NO;
        }
        padWay.beginOn(corn);
        for (int i = 0; i < signs; i++) {
            if (!padWay.go(corn, stepOfSign(pad[i]))) {
                return STATE;
            }
        }
        return CAN_BE;
    }

    private static int stepOfSign(int sign) {
        for (int d = 0; d < STEPS; d++) {
            if (STEP_SIGNS[d] == sign) {
                return d;
            }
        }
        return -1;
    }

    // ---- what is found out about the FIELD

    private void forget() {
        waysKnown = false;
        whereKnown = false;
        togetherKnown = false;
        apartKnown = false;
    }

    private void lookAtAllWays() {
        if (waysKnown) {
            return;
        }
        longestWay.clear();
        bestWay.clear();
        for (int p = 0; p < MOST_PLACES; p++) {
            allEnding[p] = 0;
        }
        ways.from(corn, corn.beginning, MOST_PLACES);
        for (int n = 0; n < MOST_WAYS && ways.next(); n++) {
            longestWay.offer(ways, ways.depth + 1);
            bestWay.offer(ways, ways.brought());
            int end = ways.end();
            if (ways.leavesNothing() && corn.hasPlace(end)) {
                allEnding[end]++;
            }
        }
        waysKnown = true;
    }

    private void lookWhere() {
        wherePlace = 0;
        whereLongest = 0;
        for (int p = 0; p < corn.places; p++) {
            if (corn.isOpen(p) && corn.boundFrom(p) > whereLongest) {
                int most = longestFrom(p);
                if (most > whereLongest) {
                    whereLongest = most;
                    wherePlace = p;
                }
            }
        }
        whereKnown = true;
    }

    private int longestFrom(int place) {
        int bound = corn.boundFrom(place);
        int most = 0;
        ways.from(corn, place, MOST_PLACES);
        // Nothing is longer than the BOUND: a WAY that comes to it ends the search.
        for (int n = 0; n < MOST_WAYS && most < bound && ways.next(); n++) {
            most = Math.max(most, ways.depth + 1);
        }
        return most;
    }

    /** How many PLACES two reapers can cut from here on, if they help one another. */
    private static int cutTogether(Field f, int mine, int others, int free, int turn) {
        if (turn >= MOST_TURNS) {
            return 0;
        }
        if (f.isBlind(mine, free)) {
            return f.isBlind(others, free) ? 0 : cutTogether(f, others, mine, free, turn + 1);
        }
        int atMost = Integer.bitCount(free);
        int most = 0;
        for (int d = 0; d < STEPS && most < atMost; d++) {
            int to = f.beside(mine, d);
            if (isIn(free, to)) {
                most = Math.max(most, 1 + cutTogether(f, others, to, free & ~(1 << to), turn + 1));
            }
        }
        return most;
    }

    /** What he whose turn it is can cut from here on, less what the other one cuts. */
    private static int leadApart(Field f, int mine, int others, int free, int turn) {
        if (turn >= MOST_TURNS) {
            return 0;
        }
        if (f.isBlind(mine, free)) {
            return f.isBlind(others, free) ? 0 : -leadApart(f, others, mine, free, turn + 1);
        }
        int most = -MOST_PLACES;
        for (int d = 0; d < STEPS; d++) {
            int to = f.beside(mine, d);
            if (isIn(free, to)) {
                most = Math.max(most, 1 - leadApart(f, others, to, free & ~(1 << to), turn + 1));
            }
        }
        return most;
    }

    private static boolean isIn(int bits, int place) {
        return place >= 0 && place < MOST_PLACES && (bits >> place & 1) == 1;
    }

    /** The FIELD, with THE BEGINNING and SPILL: all that an IMAGE keeps. */
    private static final class Field {
        private int rows;
        private int columns;
        private int places;
        /** The PLACES that are no stones, as bits. */
        private int open;
        private int beginning;
        private int spilt;
        private final int[] earsAt = new int[MOST_PLACES];
        private final int[] besides = new int[MOST_PLACES * STEPS];
        private final int[] around = new int[MOST_PLACES];

        private void lay(int newRows, int newColumns) {
            rows = newRows;
            columns = newColumns;
            places = Math.min(MOST_PLACES, newRows * newColumns);
            open = (1 << places) - 1;
            beginning = 0;
            for (int p = 0; p < places; p++) {
                earsAt[p] = 1;
                joinWithOthers(p, p / Math.max(1, columns), p % Math.max(1, columns));
            }
        }

        private void joinWithOthers(int place, int row, int column) {
            around[place] = 0;
            for (int d = 0; d < STEPS; d++) {
                int toRow = row + STEP_ROWS[d];
                int toColumn = column + STEP_COLUMNS[d];
                boolean within = toRow >= 0 && toRow < rows && toColumn >= 0 && toColumn < columns;
                int to = within ? toRow * columns + toColumn : BEYOND;
                besides[place * STEPS + d] = to;
                if (within) {
                    around[place] |= 1 << to;
                }
            }
        }

        /** Takes the signs of a text that has no FAULT and is not of stones alone. */
        private void sowFrom(int[] text) {
            open = 0;
            for (int p = 0; p < places && p < text.length; p++) {
                if (text[p] == '#') {
                    earsAt[p] = STONE;
                } else {
                    earsAt[p] = text[p] - '0';
                    open |= 1 << p;
                }
            }
            beginning = firstOpen();
        }

        private int firstOpen() {
            for (int p = 0; p < places; p++) {
                if (isOpen(p)) {
                    return p;
                }
            }
            return 0;
        }

        private void becomeLike(Field other) {
            rows = other.rows;
            columns = other.columns;
            places = other.places;
            open = other.open;
            beginning = other.beginning;
            spilt = other.spilt;
            System.arraycopy(other.earsAt, 0, earsAt, 0, MOST_PLACES);
            System.arraycopy(other.besides, 0, besides, 0, MOST_PLACES * STEPS);
            System.arraycopy(other.around, 0, around, 0, MOST_PLACES);
        }

        private boolean hasPlace(int place) {
            return place >= 0 && place < places;
        }

        private boolean isOpen(int place) {
            return isIn(open, place);
        }

        private int beside(int place, int step) {
            if (!hasPlace(place) || step < 0 || step >= STEPS) {
                return BEYOND;
            }
            return besides[place * STEPS + step];
        }

        /** The first STEP that can be of those from a told one on, in the order n e s w; NONE. */
        private int stepThatCanBe(int place, int free, int from) {
            if (from < 0 || !hasPlace(place) || (around[place] & free) == 0) {
                return NONE;
            }
            for (int d = from; d < STEPS; d++) {
                int to = besides[place * STEPS + d];
                if (to >= 0 && (free >> to & 1) == 1) {
                    return d;
                }
            }
            return NONE;
        }

        private boolean isBlind(int place, int free) {
            return !hasPlace(place) || (around[place] & free) == 0;
        }

        /** What is left to cut when a WAY has begun at this PLACE. */
        private int freeFrom(int place) {
            return open & ~(1 << place);
        }

        /** What EARS of this PLACE bring in when it is cut behind so many STEPS. */
        private int brings(int place, int steps) {
            return hasPlace(place) ? Math.max(0, earsAt[place] - spilt * steps) : 0;
        }

        private int earsOf(int bits) {
            int sum = 0;
            for (int p = 0; p < places; p++) {
                if (isIn(bits, p)) {
                    sum += earsAt[p];
                }
            }
            return sum;
        }

        /** The PLACES that can be come to over what is free, this one too. */
        private int reach(int place, int free) {
            int reached = 1 << place;
            for (int round = 0; round < MOST_PLACES; round++) {
                int grown = reached;
                for (int p = 0; p < places; p++) {
                    if (isIn(reached, p)) {
                        grown |= around[p] & free;
                    }
                }
                if (grown == reached) {
                    return reached;
                }
                reached = grown;
            }
            return reached;
        }

        private int boundFrom(int place) {
            int reached = reach(place, open);
            int same = 0;
            int other = 0;
            for (int p = 0; p < places; p++) {
                if (isIn(reached, p)) {
                    if (colour(p) == colour(place)) {
                        same++;
                    } else {
                        other++;
                    }
                }
            }
            return same <= other ? 2 * same : 2 * other + 1;
        }

        private int colour(int place) {
            return columns > 0 ? (place / columns + place % columns) % 2 : 0;
        }

        /** Of the STEPS that can be, the one numbered by what is left over: the PLACE it leads to. */
        private int stepNumbered(int place, int free, int number) {
            int can = hasPlace(place) ? Integer.bitCount(around[place] & free) : 0;
            if (can == 0) {
                return place;
            }
            int left = number % can;
            for (int d = 0; d < STEPS; d++) {
                int to = beside(place, d);
                if (isIn(free, to)) {
                    if (left == 0) {
                        return to;
                    }
                    left--;
                }
            }
            return place;
        }
    }

    /** A told WAY, as far as it can be gone. */
    private static final class Walk {
        private int end;
        private int steps;
        private int free;
        private int brought;
        private int why;

        private void beginOn(Field f) {
            end = f.beginning;
            steps = 0;
            free = f.freeFrom(end);
            brought = f.brings(end, 0);
            why = NONE;
        }

        private boolean go(Field f, int step) {
            int to = f.beside(end, step);
            if (!isIn(free, to)) {
                why = to == BEYOND ? WHY_BEYOND : f.isOpen(to) ? WHY_CUT : WHY_STONE;
                return false;
            }
            steps++;
            end = to;
            free &= ~(1 << to);
            brought += f.brings(to, steps);
            return true;
        }

        private int cut(Field f) {
            return f.open & ~free;
        }
    }

    /**
     * All ways on from a PLACE, one after the other, in the order n e s w: each one
     * before those that go on from it, the one of no STEPS first.
     */
    private static final class Ways {
        private Field on;
        private int stepsBefore;
        private int mostDepth;
        private boolean begun;
        private int depth;
        private final int[] at = new int[MOST_PLACES];
        private final int[] free = new int[MOST_PLACES];
        private final int[] broughtAt = new int[MOST_PLACES];
        /** How many of the four STEPS are done with at a depth: the last of these is the one gone. */
        private final int[] tried = new int[MOST_PLACES];

        private void from(Field f, int place, int most) {
            start(f, 0, most);
            at[0] = place;
            free[0] = f.freeFrom(place);
            broughtAt[0] = f.brings(place, 0);
        }

        private void goOn(Field f, Walk walk, int most) {
            start(f, walk.steps, most);
            at[0] = walk.end;
            free[0] = walk.free;
            broughtAt[0] = walk.brought;
        }

        private void start(Field f, int before, int most) {
            on = f;
            stepsBefore = before;
            mostDepth = Math.min(most, MOST_PLACES - 1);
            begun = false;
            depth = 0;
            tried[0] = 0;
        }

        private boolean next() {
            if (on == null) {
                return false;
            }
            if (!begun) {
                begun = true;
                return true;
            }
            for (int n = 0; n < MOST_PLACES; n++) {
                int step = depth < mostDepth ? on.stepThatCanBe(at[depth], free[depth], tried[depth]) : NONE;
                if (step != NONE) {
                    tried[depth] = step + 1;
                    goTo(on.beside(at[depth], step));
                    return true;
                }
                if (depth == 0) {
                    return false;
                }
                depth--;
            }
            return false;
        }

        private void goTo(int to) {
            int deeper = depth + 1;
            at[deeper] = to;
            free[deeper] = free[depth] & ~(1 << to);
            broughtAt[deeper] = broughtAt[depth] + on.brings(to, stepsBefore + deeper);
            tried[deeper] = 0;
            depth = deeper;
        }

        private int end() {
            return at[depth];
        }

        private int brought() {
            return broughtAt[depth];
        }

        private boolean leavesNothing() {
            return free[depth] == 0;
        }
    }

    /** The way of most worth of those that were offered: of several that of fewer STEPS, then the first. */
    private static final class Chosen {
        private int worth;
        private int steps;
        private final int[] gone = new int[MOST_PLACES];

        private void clear() {
            worth = -1;
            steps = 0;
        }

        private void offer(Ways w, int newWorth) {
            if (newWorth < worth || (newWorth == worth && w.depth >= steps)) {
                return;
            }
            worth = newWorth;
            steps = w.depth;
            for (int i = 0; i < steps; i++) {
                gone[i] = w.tried[i] - 1;
            }
        }

        private int signOf(int i) {
            if (i < 0 || i >= steps || gone[i] < 0 || gone[i] >= STEPS) {
                return NONE;
            }
            return STEP_SIGNS[gone[i]];
        }
    }
}
