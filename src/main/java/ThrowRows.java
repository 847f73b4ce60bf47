import java.util.Arrays;

/**
 * Patterns of throws, one throw a beat, over and over. The document ../shared/DOC.md says what each
 * call answers; words in capitals here are its terms.
 *
 * All rows are made in constructors and used again, so that no call makes anything anew.
 */
public final class ThrowRows {
    public static final int UNKNOWN = -1, OUTSIDE = -2, STATE = -3, FULL = -4, NONE = -9;
    public static final long LOST = Long.MIN_VALUE;

    private static final int NULL = 1, CAST = 2, INDEX = 3, SIZE = 4;
    private static final int FAULTED = -10, WRONG_TEXT = -100;

    private static final int HIGHEST = 9, MOST_BEATS = 8, MOST_BALLS = 9, LAST_BEAT = 999;
    private static final int BALLS = 10, ALL_BALLS = 1023;
    private static final int IMAGES = 3, SHEETS = 4, MOST_CELLS = 40;
    private static final int BYTES = 0, SHORTS = 1, INTS = 2;
    private static final int BALL = 0, HEAVY = 1, EGG = 2;
    private static final int FIRST_DIGIT = 48, LAST_DIGIT = 57, OPEN = -1;
    private static final int USUAL_HANDS = 2, MOST_HANDS = 4;
    private static final int LAST_STATE = 511;

    private final Row row = new Row();
    private final Row spare = new Row();
    private final Row[] images = new Row[IMAGES];
    private final Sheet[] sheets = new Sheet[SHEETS];
    private final Flight flight = new Flight();
    private final Kinds kinds = new Kinds();
    private final Ways ways = new Ways();
    private final Fillings fillings = new Fillings();
    private int handCount = USUAL_HANDS;
    private int dropped;
    private int latestFault;

    public ThrowRows() {
        for (int i = 0; i < IMAGES; i++) {
            images[i] = new Row();
        }
        for (int k = 0; k < SHEETS; k++) {
            sheets[k] = new Sheet();
        }
    }

    // ---- 1 the pattern

    public int pattern(int sheet, int sort, int i, int n) {
        latestFault = 0;
        if (!isSheet(sheet)) {
            return UNKNOWN;
        }
        if (!isSort(sort)) {
            return OUTSIDE;
        }
        latestFault = sheets[sheet].faultOfCells(sort, i, n);
        if (latestFault != 0) {
            return FAULTED - latestFault;
        }
        int wrong = firstWrongCode(sheets[sheet], i, n);
        if (wrong != NONE) {
            return WRONG_TEXT - wrong;
        }
        takeText(sheets[sheet], i, n);
        return row.period;
    }

    public int throwOf(int beat) {
        return row.hasBeat(beat) ? row.heightIn(beat) : UNKNOWN;
    }

    public int clash() {
        return row.isThere() ? row.firstClash() : STATE;
    }

    public int good(int what) {
        if (!isWithin(what, 0, 4)) {
            return OUTSIDE;
        }
        if (!row.isGood()) {
            return STATE;
        }
        switch (what) {
            case 0:
                return row.ballCount();
            case 1:
                return row.greatestHeight();
            case 2:
                return row.isPrime() ? 1 : 0;
            case 3:
                return row.isGround() ? 1 : 0;
            default:
                return row.orbitsBelow(row.period);
        }
    }

    // ---- 2 states, balls, hands

    public int state(int beat) {
        if (!row.hasBeat(beat)) {
            return UNKNOWN;
        }
        return row.isGood() ? row.stateAhead(beat) : STATE;
    }

    public int ball(int b) {
        if (!isWithin(b, 0, LAST_BEAT)) {
            return OUTSIDE;
        }
        if (!row.isGood()) {
            return STATE;
        }
        flight.begin();
        int thrown = NONE;
        for (int at = 0; at <= b; at++) {
            thrown = flight.pass(at, row.heightIn(at));
        }
        return thrown;
    }

    public int orbit(int beat) {
        if (!row.hasBeat(beat)) {
            return UNKNOWN;
        }
        return row.isGood() ? row.orbitsBelow(row.leastInOrbit(beat)) : STATE;
    }

    public int hands(int n) {
        if (!isWithin(n, 1, MOST_HANDS)) {
            return OUTSIDE;
        }
        if (!row.isThere()) {
            return STATE;
        }
        int before = handCount;
        handCount = n;
        return before;
    }

    public int beat(int b, int what) {
        if (!isWithin(b, 0, LAST_BEAT) || !isWithin(what, 0, 2)) {
            return OUTSIDE;
        }
        if (!row.isGood()) {
            return STATE;
        }
        if (what == 0) {
            return handIn(b);
        }
        if (what == 1) {
            int height = row.heightIn(b);
            return height == 0 ? NONE : handIn(b + height);
        }
        // the ball of bit 0 lands in this very beat, so it is no longer in the air
        return Integer.bitCount(row.stateAhead(b) >> 1);
    }

    // ---- 3 swaps, turns, images

    public int swap(int i, int j) {
        if (!row.hasBeat(i) || !row.hasBeat(j) || j <= i) {
            return UNKNOWN;
        }
        int first = row.heightIn(j) + (j - i);
        int second = row.heightIn(i) - (j - i);
        if (second < 0) {
            return STATE;
        }
        if (first > HIGHEST) {
            return FULL;
        }
        row.setHeight(i, first);
        row.setHeight(j, second);
        return 1;
    }

    public int turn(int k) {
        if (!isWithin(k, 0, MOST_BEATS - 1)) {
            return OUTSIDE;
        }
        if (!row.isThere()) {
            return STATE;
        }
        spare.take(row);
        row.takeTurned(spare, k);
        return row.heightIn(0);
    }

    public int backward() {
        if (!row.isGood()) {
            return STATE;
        }
        spare.take(row);
        row.takeBackward(spare);
        return row.heightIn(0);
    }

    public int greatest(int beat) {
        return row.hasBeat(beat) ? row.heightIn(row.greatestTurn() + beat) : UNKNOWN;
    }

    public int keep(int i) {
        if (!isImage(i)) {
            return UNKNOWN;
        }
        if (!row.isThere()) {
            return STATE;
        }
        images[i].take(row);
        return 1;
    }

    public int back(int i) {
        if (!isImage(i)) {
            return UNKNOWN;
        }
        if (!images[i].isThere()) {
            return STATE;
        }
        row.take(images[i]);
        return row.period;
    }

    public int like(int i) {
        if (!isImage(i)) {
            return UNKNOWN;
        }
        if (!images[i].isThere() || !row.isThere()) {
            return STATE;
        }
        return row.isTurned(images[i]) ? 1 : 0;
    }

    // ---- 4 how many, ways, open rows

    public long howMany(int period, int balls, int top) {
        if (!isWithin(period, 1, MOST_BEATS) || !isWithin(balls, 0, MOST_BALLS)
                || !isWithin(top, 0, HIGHEST)) {
            return LOST;
        }
        for (int beat = 0; beat < period; beat++) {
            fillings.allow(beat, 0, top);
        }
        return fillings.count(period, balls);
    }

    public int way(int from, int to, int top, int q) {
        if (!isWithin(from, 0, LAST_STATE) || !isWithin(to, 0, LAST_STATE)
                || Integer.bitCount(from) != Integer.bitCount(to) || !isWithin(top, 0, HIGHEST)) {
            return OUTSIDE;
        }
        if (q < -1) {
            return UNKNOWN;
        }
        ways.measure(to, top);
        return q == -1 ? ways.beatsFrom(from) : ways.throwOnWay(from, top, q);
    }

    public long filled(int sheet, int sort, int i, int n, int balls, int q) {
        latestFault = 0;
        if (!isSheet(sheet) || !isSort(sort) || !isWithin(balls, 0, MOST_BALLS)) {
            return LOST;
        }
        latestFault = sheets[sheet].faultOfCells(sort, i, n);
        if (latestFault != 0 || !isWithin(n, 1, MOST_BEATS)
                || !areOpenOrThrows(sheets[sheet], i, n) || !isWithin(q, -1, n - 1)) {
            return LOST;
        }
        allowCells(sheets[sheet], i, n);
        int many = fillings.count(n, balls);
        if (q == -1) {
            return many;
        }
        return many == 0 ? LOST : fillings.throwOfFirst(n, balls, q);
    }

    // ---- 5 kinds of balls, drops

    public int kind(int k, int kind) {
        if (!isBall(k)) {
            return UNKNOWN;
        }
        if (!isKind(kind)) {
            return OUTSIDE;
        }
        int before = kinds.kindOf(k);
        kinds.setKind(k, kind);
        return before;
    }

    public int broken() {
        if (!row.isGood()) {
            return STATE;
        }
        flight.begin();
        int found = 0;
        // a ball is thrown first in one of the beats 0 .. 8, and has been around its orbit
        // as many beats later as all throws tell together
        for (int at = 0; at < HIGHEST + MOST_BEATS * HIGHEST; at++) {
            int thrown = flight.pass(at, row.heightIn(at));
            if (thrown != NONE && row.heightIn(at) > kinds.mayGo(thrown)) {
                found |= 1 << thrown;
            }
        }
        return found;
    }

    public int drop(int balls) {
        if (!isWithin(balls, 0, ALL_BALLS)) {
            return OUTSIDE;
        }
        if (!row.isThere()) {
            return STATE;
        }
        int before = dropped;
        dropped = balls;
        return before;
    }

    public int empty(int b) {
        if (!isWithin(b, 0, LAST_BEAT)) {
            return OUTSIDE;
        }
        if (!row.isGood()) {
            return STATE;
        }
        flight.begin();
        int count = 0;
        for (int at = 0; at <= b; at++) {
            int thrown = flight.pass(at, row.heightIn(at));
            if (thrown != NONE && (dropped >> thrown & 1) == 1) {
                count++;
            }
        }
        return count;
    }

    // ---- 6 sheets, parts

    public int sheet(int k, int sort, int n) {
        latestFault = 0;
        if (!isSheet(k)) {
            return UNKNOWN;
        }
        if (!isSort(sort) || n > MOST_CELLS) {
            return OUTSIDE;
        }
        if (n < 0) {
            return faulted(SIZE);
        }
        sheets[k].renew(sort, n);
        return 1;
    }

    public int lose(int k) {
        if (!isSheet(k)) {
            return UNKNOWN;
        }
        return sheets[k].clear() ? 1 : 0;
    }

    public int put(int k, int i, int v) {
        latestFault = 0;
        if (!isSheet(k)) {
            return UNKNOWN;
        }
        if (!sheets[k].isThere()) {
            return faulted(NULL);
        }
        if (!sheets[k].holds(i, 1)) {
            return faulted(INDEX);
        }
        sheets[k].write(i, v);
        return 1;
    }

    public long cell(int k, int i, int sort) {
        latestFault = 0;
        if (!isSheet(k) || !isSort(sort)) {
            return LOST;
        }
        latestFault = sheets[k].faultOfCells(sort, i, 1);
        return latestFault != 0 ? LOST : sheets[k].read(i);
    }

    public int copy(int k, int i, int other, int j, int n) {
        latestFault = 0;
        if (!isSheet(k) || !isSheet(other)) {
            return UNKNOWN;
        }
        Sheet from = sheets[k];
        Sheet to = sheets[other];
        if (!from.isThere() || !to.isThere()) {
            return faulted(NULL);
        }
        if (from.sort != to.sort) {
            return faulted(CAST);
        }
        if (n < 0 || !from.holds(i, n) || !to.holds(j, n)) {
            return faulted(INDEX);
        }
        System.arraycopy(from.cells, i, to.cells, j, n);
        return n;
    }

    public int tell(int k) {
        return isBall(k) ? kinds.telling(k) : UNKNOWN;
    }

    public int call(int k) {
        return isBall(k) ? kinds.calling(k) : UNKNOWN;
    }

    public int as(int k, int kind) {
        latestFault = 0;
        if (!isBall(k)) {
            return UNKNOWN;
        }
        if (!isKind(kind)) {
            return OUTSIDE;
        }
        // an EGG is HEAVY and a HEAVY is a BALL: each kind is all the lower ones, too
        return kinds.kindOf(k) >= kind ? 1 : faulted(CAST);
    }

    public int trace() {
        return kinds.traced;
    }

    public int fault() {
        return latestFault;
    }

    public int many(int what) {
        switch (what) {
            case 0:
                return row.period;
            case 1:
                return row.isThere() ? handCount : 0;
            case 2:
                return imageCount();
            default:
                return OUTSIDE;
        }
    }

    // ---- what the calls share

    private static boolean isWithin(int value, int least, int most) {
        return value >= least && value <= most;
    }

    private static boolean isSheet(int k) {
        return isWithin(k, 0, SHEETS - 1);
    }

    private static boolean isSort(int sort) {
        return isWithin(sort, BYTES, INTS);
    }

    private static boolean isImage(int i) {
        return isWithin(i, 0, IMAGES - 1);
    }

    private static boolean isBall(int k) {
        return isWithin(k, 0, BALLS - 1);
    }

    private static boolean isKind(int kind) {
        return isWithin(kind, BALL, EGG);
    }

    private int faulted(int which) {
        latestFault = which;
        return FAULTED - which;
    }

    private int handIn(int b) {
        return handCount < 1 ? NONE : b % handCount;
    }

    private int imageCount() {
        int count = 0;
        for (int i = 0; i < IMAGES; i++) {
            if (images[i].isThere()) {
                count++;
            }
        }
        return count;
    }

    private static int firstWrongCode(Sheet text, int i, int n) {
        for (int at = 0; at < n; at++) {
            if (at >= MOST_BEATS || !isWithin(text.read(i + at), FIRST_DIGIT, LAST_DIGIT)) {
                return at;
            }
        }
        return n == 0 ? 0 : NONE;
    }

    private void takeText(Sheet text, int i, int n) {
        row.period = n;
        for (int beat = 0; beat < n; beat++) {
            row.setHeight(beat, text.read(i + beat) - FIRST_DIGIT);
        }
        handCount = USUAL_HANDS;
        kinds.reset();
        dropped = 0;
    }

    private static boolean areOpenOrThrows(Sheet told, int i, int n) {
        for (int beat = 0; beat < n; beat++) {
            if (!isWithin(told.read(i + beat), OPEN, HIGHEST)) {
                return false;
            }
        }
        return true;
    }

    private void allowCells(Sheet told, int i, int n) {
        for (int beat = 0; beat < n; beat++) {
            int height = told.read(i + beat);
            if (height == OPEN) {
                fillings.allow(beat, 0, HIGHEST);
            } else {
                fillings.allow(beat, height, height);
            }
        }
    }

    /** A row of THROWS, a PATTERN or an IMAGE; PERIOD 0: there is none. */
    private static final class Row {
        private final int[] heights = new int[MOST_BEATS];
        private int period;

        boolean isThere() {
            return period > 0;
        }

        boolean hasBeat(int beat) {
            return beat >= 0 && beat < period;
        }

        /** The THROW in a beat of the run without end, to both sides. */
        int heightIn(int b) {
            return period < 1 ? 0 : heights[Math.floorMod(b, period)];
        }

        void setHeight(int beat, int height) {
            if (hasBeat(beat)) {
                heights[beat] = height;
            }
        }

        /** The BEAT of the beat in which what is thrown in a BEAT lands. */
        int landingOf(int beat) {
            return period < 1 ? 0 : Math.floorMod(beat + heightIn(beat), period);
        }

        int firstClash() {
            for (int i = 0; i < period; i++) {
                for (int j = i + 1; j < period; j++) {
                    if (landingOf(i) == landingOf(j)) {
                        return 10 * i + j;
                    }
                }
            }
            return NONE;
        }

        boolean isGood() {
            return isThere() && firstClash() == NONE;
        }

        int ballCount() {
            int sum = 0;
            for (int beat = 0; beat < period; beat++) {
                sum += heights[beat];
            }
            return period < 1 ? 0 : sum / period;
        }

        int greatestHeight() {
            int most = 0;
            for (int beat = 0; beat < period; beat++) {
                most = Math.max(most, heights[beat]);
            }
            return most;
        }

        int stateAhead(int b) {
            int state = 0;
            for (int ago = 1; ago <= HIGHEST; ago++) {
                int on = heightIn(b - ago) - ago;
                if (on >= 0) {
                    state |= 1 << on;
                }
            }
            return state;
        }

        boolean isPrime() {
            for (int i = 0; i < period; i++) {
                for (int j = i + 1; j < period; j++) {
                    if (stateAhead(i) == stateAhead(j)) {
                        return false;
                    }
                }
            }
            return true;
        }

        boolean isGround() {
            int lowest = (1 << ballCount()) - 1;
            for (int beat = 0; beat < period; beat++) {
                if (stateAhead(beat) == lowest) {
                    return true;
                }
            }
            return false;
        }

        int leastInOrbit(int beat) {
            int least = beat;
            int at = beat;
            for (int step = 0; step < period; step++) {
                at = landingOf(at);
                least = Math.min(least, at);
            }
            return least;
        }

        /** How many ORBITS have their least BEAT below the one told. */
        int orbitsBelow(int end) {
            int count = 0;
            for (int beat = 0; beat < end; beat++) {
                if (leastInOrbit(beat) == beat) {
                    count++;
                }
            }
            return count;
        }

        void take(Row other) {
            takeTurned(other, 0);
        }

        void takeTurned(Row other, int k) {
            period = other.period;
            for (int beat = 0; beat < period; beat++) {
                setHeight(beat, other.heightIn(beat + k));
            }
        }

        void takeBackward(Row other) {
            period = other.period;
            for (int beat = 0; beat < period; beat++) {
                setHeight(period - 1 - other.landingOf(beat), other.heightIn(beat));
            }
        }

        /** By how much the row is TURNED in its GREATEST form. */
        int greatestTurn() {
            int best = 0;
            for (int k = 1; k < period; k++) {
                if (isTurnGreater(k, best)) {
                    best = k;
                }
            }
            return best;
        }

        private boolean isTurnGreater(int k, int other) {
            for (int beat = 0; beat < period; beat++) {
                int more = heightIn(beat + k) - heightIn(beat + other);
                if (more != 0) {
                    return more > 0;
                }
            }
            return false;
        }

        /** Two rows are TURNED ones of each other just if their GREATEST forms are one. */
        boolean isTurned(Row other) {
            if (period != other.period) {
                return false;
            }
            int mine = greatestTurn();
            int its = other.greatestTurn();
            for (int beat = 0; beat < period; beat++) {
                if (heightIn(beat + mine) != other.heightIn(beat + its)) {
                    return false;
                }
            }
            return true;
        }
    }

    /** Follows the BALLS of a GOOD PATTERN from beat 0 on. */
    private static final class Flight {
        // the BALL that lands in beat b is in place b modulo the length: with a place more than
        // the highest THROW, none is written over ahead of its beat
        private final int[] landing = new int[HIGHEST + 1];
        private int seen;

        void begin() {
            Arrays.fill(landing, NONE);
            seen = 0;
        }

        /** Which BALL is thrown in beat b, once all beats ahead of it have passed. */
        int pass(int b, int height) {
            if (b < 0 || height < 1) {
                return NONE;
            }
            int here = b % landing.length;
            int thrown = landing[here];
            if (thrown == NONE) {
                thrown = seen;
                seen++;
            }
            landing[here] = NONE;
            landing[(b + height) % landing.length] = thrown;
            return thrown;
        }
    }

    /** Of which kind each BALL is, and what their bodies tell. */
    private static final class Kinds {
        private final int[] kinds = new int[BALLS];
        private int traced;

        void reset() {
            Arrays.fill(kinds, BALL);
        }

        int kindOf(int k) {
            return isBall(k) ? kinds[k] : BALL;
        }

        void setKind(int k, int kind) {
            if (isBall(k)) {
                kinds[k] = kind;
            }
        }

        int mayGo(int k) {
            switch (kindOf(k)) {
                case EGG:
                    return 4;
                case HEAVY:
                    return 6;
                default:
                    return HIGHEST;
            }
        }

        int telling(int k) {
            switch (kindOf(k)) {
                case EGG:
                    return tellingOfEgg(k);
                case HEAVY:
                    return tellingOfHeavy(k);
                default:
                    return tellingOfBall(k);
            }
        }

        int calling(int k) {
            if (kindOf(k) == EGG) {
                leave(5);
                return 70;
            }
            leave(4);
            return mayGo(k);
        }

        private int tellingOfBall(int k) {
            leave(1);
            return k;
        }

        private int tellingOfHeavy(int k) {
            leave(2);
            return tellingOfBall(k) + 100;
        }

        private int tellingOfEgg(int k) {
            leave(3);
            return tellingOfHeavy(k) + tellingOfBall(k);
        }

        private void leave(int body) {
            traced = 31 * traced + body;
        }
    }

    /** The fewest beats from each STATE to one STATE, found from that one on backward. */
    private static final class Ways {
        private final int[] beats = new int[LAST_STATE + 1];
        private final int[] reached = new int[LAST_STATE + 1];
        private int reachedCount;

        void measure(int to, int top) {
            Arrays.fill(beats, NONE);
            reachedCount = 0;
            reach(to, 0);
            for (int at = 0; at < reachedCount && at < reached.length; at++) {
                reachFrom(reached[at], top);
            }
        }

        private void reachFrom(int state, int top) {
            int ahead = state << 1;
            int more = beatsFrom(state) + 1;
            reach(ahead, more);
            for (int k = 1; k <= top; k++) {
                if ((ahead >> k & 1) == 1) {
                    reach(ahead ^ 1 << k | 1, more);
                }
            }
        }

        private void reach(int state, int howFar) {
            if (isWithin(state, 0, LAST_STATE) && beats[state] == NONE
                    && reachedCount < reached.length) {
                beats[state] = howFar;
                reached[reachedCount] = state;
                reachedCount++;
            }
        }

        int beatsFrom(int state) {
            return isWithin(state, 0, LAST_STATE) ? beats[state] : NONE;
        }

        int throwOnWay(int from, int top, int q) {
            int howFar = beatsFrom(from);
            if (howFar == NONE || q >= howFar) {
                return NONE;
            }
            int state = from;
            for (int beat = 0; beat < q; beat++) {
                state = stateBehind(state, leastThrow(state, top));
            }
            return leastThrow(state, top);
        }

        /** The least THROW that comes a beat nearer. */
        private int leastThrow(int state, int top) {
            if ((state & 1) == 0) {
                return 0;
            }
            int nearer = beatsFrom(state) - 1;
            for (int k = 1; k <= top; k++) {
                if ((state >> k & 1) == 0 && beatsFrom(stateBehind(state, k)) == nearer) {
                    return k;
                }
            }
            return 0;
        }

        private static int stateBehind(int state, int height) {
            int thrown = height == 0 ? state : state | 1 << height;
            return thrown >> 1;
        }
    }

    /**
     * How many GOOD PATTERNS there are with each THROW within bounds. Of a PATTERN without a CLASH
     * the landings, in BEATS, are all the BEATS once: so all THROWS together are PERIOD times how
     * often a THROW goes past the row's end, which is then how many BALLS there are.
     */
    private static final class Fillings {
        private static final int PASSES = MOST_BALLS + 1;

        private final int[] least = new int[MOST_BEATS];
        private final int[] most = new int[MOST_BEATS];
        // how many ways there are to go on, by the set of BEATS landed in already (as many as
        // BEATS have thrown), and by how many passes are still to come
        private final int[] counts = new int[(1 << MOST_BEATS) * PASSES];

        void allow(int beat, int from, int to) {
            if (isWithin(beat, 0, MOST_BEATS - 1)) {
                least[beat] = from;
                most[beat] = to;
            }
        }

        int count(int period, int balls) {
            if (!isWithin(period, 1, MOST_BEATS) || !isWithin(balls, 0, MOST_BALLS)) {
                return 0;
            }
            Arrays.fill(counts, 0);
            int all = (1 << period) - 1;
            counts[all * PASSES] = 1;
            for (int taken = all - 1; taken >= 0; taken--) {
                int beat = Integer.bitCount(taken);
                for (int height = least[beat]; height <= most[beat]; height++) {
                    addThrow(period, balls, taken, beat + height);
                }
            }
            return counts[balls];
        }

        private void addThrow(int period, int balls, int taken, int landing) {
            int place = 1 << landing % period;
            if ((taken & place) != 0) {
                return;
            }
            int passed = landing / period;
            int here = taken * PASSES;
            int next = (taken | place) * PASSES - passed;
            for (int passes = passed; passes <= balls; passes++) {
                counts[here + passes] += counts[next + passes];
            }
        }

        /** The q-th THROW of the first PATTERN of those that were just counted, at least one. */
        int throwOfFirst(int period, int balls, int q) {
            int taken = 0;
            int passes = balls;
            int height = 0;
            for (int beat = 0; beat <= q && isWithin(period, 1, MOST_BEATS); beat++) {
                height = firstThrow(period, taken, passes);
                taken |= 1 << (beat + height) % period;
                passes -= (beat + height) / period;
            }
            return height;
        }

        private int firstThrow(int period, int taken, int passes) {
            int beat = Integer.bitCount(taken);
            if (beat >= period) {
                return 0;
            }
            for (int height = least[beat]; height < most[beat]; height++) {
                int place = 1 << (beat + height) % period;
                int passesLeft = passes - (beat + height) / period;
                if ((taken & place) == 0 && passesLeft >= 0
                        && counts[(taken | place) * PASSES + passesLeft] > 0) {
                    return height;
                }
            }
            return most[beat];
        }
    }

    /** What a SHEET has: a row of numbers of a SORT, or nothing. */
    private static final class Sheet {
        private static final int NOTHING = -1;

        private final int[] cells = new int[MOST_CELLS];
        private int length = NOTHING;
        private int sort;

        boolean isThere() {
            return length != NOTHING;
        }

        void renew(int newSort, int n) {
            Arrays.fill(cells, 0);
            sort = newSort;
            length = n;
        }

        boolean clear() {
            boolean was = isThere();
            length = NOTHING;
            return was;
        }

        /** Whether n cells (0 or more) from i on are there. */
        boolean holds(int i, int n) {
            return i >= 0 && i <= length && n <= length - i;
        }

        /** The first FAULT of taking n cells from i on of a row of a SORT; 0: none. */
        int faultOfCells(int asSort, int i, int n) {
            if (!isThere()) {
                return NULL;
            }
            if (sort != asSort) {
                return CAST;
            }
            if (n < 0) {
                return SIZE;
            }
            return holds(i, n) ? 0 : INDEX;
        }

        int read(int i) {
            return holds(i, 1) ? cells[i] : 0;
        }

        void write(int i, int v) {
            if (holds(i, 1)) {
                cells[i] = cutToSort(v);
            }
        }

        private int cutToSort(int v) {
            switch (sort) {
                case BYTES:
                    return (byte) v;
                case SHORTS:
                    return (short) v;
                default:
                    return v;
            }
        }
    }
}
