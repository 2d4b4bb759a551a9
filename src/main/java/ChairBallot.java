/**
 * Deckchairs in a row vote by which way they have been left. The promises that the answers keep
 * are told in DOC.md, whose words the comments here use.
 */
public final class ChairBallot {
    public static final int UNKNOWN = -1, OUTSIDE = -2, STATE = -3, FULL = -4, NONE = -9;
    public static final long LOST = Long.MIN_VALUE;

    private static final int NO_FAULT = 0, NULL = 1, CAST = 2, INDEX = 3, SIZE = 4;
    private static final int BELOW_FAULTS = -10, BELOW_PLACES = -100;
    private static final int TAKEN = 1, NO_REFUSAL = 0;

    private static final int SHEETS = 4, MOST_CELLS = 60;
    private static final int BYTES = 0, SHORTS = 1, INTS = 2;

    private static final int FEWEST_CHAIRS = 2, MOST_CHAIRS = 8, CODES_OF_CHAIR = 5;
    private static final int PLAIN = 0, SHADED = 1, BROKEN = 2;
    private static final int STRIPES = 4, LIGHTEST = 1, HEAVIEST = 9;
    private static final int SEA = 0, RIGHT = 1, LAND = 2, LEFT = 3;
    private static final int NEITHER = 0, FOR = 1, AGAINST = 2;

    private static final int STRONGEST_GUST = 10, MOST_PAIRS = 20;
    private static final int GUST_ACTS = 4, RAIN_ACT = 8, OPEN_ACT = 9, WAYS_OF_DAY = 10;
    private static final int MOST_READINGS = 8, MOST_VOTES_READ = 10;

    private final Sheet[] sheets = new Sheet[SHEETS];
    private final Row now = new Row();
    private final Row trial = new Row();
    private final int[] tilts = new int[MOST_CHAIRS];
    private final int[] readChair = new int[MOST_READINGS];
    private final int[] readVotes = new int[MOST_READINGS];
    private int readings = 0;
    private int traced = 0;
    private int latestFault = NO_FAULT;

    public ChairBallot() {
        for (int k = 0; k < sheets.length; k++) {
            sheets[k] = new Sheet();
        }
    }

    // ---- 1 the front

    public int front(int sheet, int lane, int i, int n) {
        latestFault = NO_FAULT;
        Sheet text = sheetAt(sheet);
        if (text == null) {
            return UNKNOWN;
        }
        if (!isLane(lane)) {
            return OUTSIDE;
        }
        int fault = text.faultAs(lane);
        if (fault != NO_FAULT) {
            return faulted(fault);
        }
        if (n < 0) {
            return faulted(SIZE);
        }
        if (!text.holds(i, n)) {
            return faulted(INDEX);
        }
        int wrong = firstFaultOfText(text, i, n);
        if (wrong != NONE) {
            return BELOW_PLACES - wrong;
        }
        takeText(text, i, n);
        return now.count;
    }

    public int ofChair(int k, int what) {
        if (!now.has(k)) {
            return UNKNOWN;
        }
        switch (what) {
            case 0: return now.kind[k];
            case 1: return now.stripe[k];
            case 2: return now.weight[k];
            case 3: return now.looks[k];
            case 4: return now.isFolded(k) ? 1 : 0;
            case 5: return now.votes(k);
            case 6: return now.side(k);
            default: return OUTSIDE;
        }
    }

    public int paint(int k, int v) {
        if (!now.has(k)) {
            return UNKNOWN;
        }
        if (!isStripe(v)) {
            return OUTSIDE;
        }
        int was = now.stripe[k];
        now.stripe[k] = v;
        return was;
    }

    public int load(int k, int v) {
        if (!now.has(k)) {
            return UNKNOWN;
        }
        if (v < LIGHTEST || v > HEAVIEST) {
            return OUTSIDE;
        }
        int was = now.weight[k];
        now.weight[k] = v;
        return was;
    }

    public int poll(int what) {
        if (!hasFront()) {
            return STATE;
        }
        switch (what) {
            case 0: return now.votesOf(FOR);
            case 1: return now.votesOf(AGAINST);
            case 2: return now.isCarried() ? 1 : 0;
            case 3: return now.chairsOf(FOR);
            case 4: return now.chairsOf(AGAINST);
            default: return OUTSIDE;
        }
    }

    private static int firstFaultOfText(Sheet text, int i, int n) {
        for (int place = 0; place < n; place++) {
            if (!goesOn(place, text.at(i + place))) {
                return place;
            }
        }
        boolean isWhole = n > FEWEST_CHAIRS * CODES_OF_CHAIR && (n - 1) % CODES_OF_CHAIR == 0;
        return isWhole ? NONE : n;
    }

    private static boolean goesOn(int place, int code) {
        if (place == 0) {
            return code == 'f';
        }
        if (place > MOST_CHAIRS * CODES_OF_CHAIR) {
            return false;
        }
        switch ((place - 1) % CODES_OF_CHAIR) {
            case 0: return code == ';';
            case 1: return kindOf(code) != NONE;
            case 2: return isStripe(code - '0');
            case 3: return code >= '1' && code <= '9';
            default: return isWay(code - '0');
        }
    }

    private static int kindOf(int letter) {
        switch (letter) {
            case 'p': return PLAIN;
            case 's': return SHADED;
            case 'b': return BROKEN;
            default: return NONE;
        }
    }

    private void takeText(Sheet text, int i, int n) {
        now.count = Math.min((n - 1) / CODES_OF_CHAIR, MOST_CHAIRS);
        now.folded = 0;
        readings = 0;
        for (int k = 0; k < now.count; k++) {
            int letter = i + 2 + k * CODES_OF_CHAIR;
            now.kind[k] = kindOf(text.at(letter));
            now.stripe[k] = text.at(letter + 1) - '0';
            now.weight[k] = text.at(letter + 2) - '0';
            now.looks[k] = text.at(letter + 3) - '0';
        }
    }

    private boolean hasFront() {
        return now.count > 0;
    }

    private static boolean isStripe(int v) {
        return v >= 0 && v < STRIPES;
    }

    private static boolean isWay(int way) {
        return way >= SEA && way <= LEFT;
    }

    // ---- 2 what turns them

    public int turn(int k, int way) {
        if (!now.has(k)) {
            return UNKNOWN;
        }
        if (!isWay(way)) {
            return OUTSIDE;
        }
        int was = now.looks[k];
        return now.turned(k, way) ? was : STATE;
    }

    public int gust(int way, int v) {
        if (!hasFront()) {
            return STATE;
        }
        if (!isWay(way) || v < 0 || v > STRONGEST_GUST) {
            return OUTSIDE;
        }
        return now.blown(way, v);
    }

    public int rain() {
        if (!hasFront()) {
            return STATE;
        }
        return now.foldedByRain();
    }

    public int open(int k) {
        if (!now.has(k)) {
            return UNKNOWN;
        }
        if (!now.opened(k)) {
            return STATE;
        }
        return Integer.bitCount(now.folded);
    }

    public int day(int sheet, int lane, int i, int n, int what) {
        latestFault = NO_FAULT;
        Sheet told = sheetAt(sheet);
        if (told == null) {
            return UNKNOWN;
        }
        if (!isLane(lane) || n < 0 || n > MOST_PAIRS || !isAskedOfDay(what)) {
            return OUTSIDE;
        }
        if (!hasFront()) {
            return STATE;
        }
        int fault = told.faultAs(lane);
        if (fault != NO_FAULT) {
            return faulted(fault);
        }
        if (!told.holds(i, 2 * n)) {
            return faulted(INDEX);
        }
        int refusal = refusalOfPairs(told, i, n);
        if (refusal != NO_REFUSAL) {
            return refusal;
        }
        return answerOfDay(told, i, n, what);
    }

    private static boolean isAskedOfDay(int what) {
        return (what >= 0 && what <= 4) || (what >= WAYS_OF_DAY && what < WAYS_OF_DAY + MOST_CHAIRS);
    }

    private int refusalOfPairs(Sheet told, int i, int n) {
        for (int pair = 0; pair < n; pair++) {
            int refusal = refusalOfPair(told.at(i + 2 * pair), told.at(i + 2 * pair + 1));
            if (refusal != NO_REFUSAL) {
                return refusal;
            }
        }
        return NO_REFUSAL;
    }

    private int refusalOfPair(int first, int second) {
        if (second < 0 || second > OPEN_ACT) {
            return OUTSIDE;
        }
        if (second == RAIN_ACT) {
            return first == 0 ? NO_REFUSAL : OUTSIDE;
        }
        if (second >= GUST_ACTS && second < RAIN_ACT) {
            return first >= 0 && first <= STRONGEST_GUST ? NO_REFUSAL : OUTSIDE;
        }
        return now.has(first) ? NO_REFUSAL : UNKNOWN;
    }

    private int answerOfDay(Sheet told, int i, int n, int what) {
        int carried = 0;
        trial.becomes(now);
        for (int pair = 0; pair < n; pair++) {
            if (!trial.acted(told.at(i + 2 * pair), told.at(i + 2 * pair + 1))) {
                return what == 1 ? pair : BELOW_PLACES - pair;
            }
            if (trial.isCarried()) {
                carried++;
            }
        }
        switch (what) {
            case 0: return trial.votesOf(FOR);
            case 1: return NONE;
            case 2: return trial.votesOf(AGAINST);
            case 3: return trial.folded;
            case 4: return carried;
            default: return trial.has(what - WAYS_OF_DAY) ? trial.looks[what - WAYS_OF_DAY] : NONE;
        }
    }

    // ---- 3 what would carry it

    public int swing() {
        if (!hasFront()) {
            return STATE;
        }
        int best = NONE;
        int fewest = MOST_CHAIRS + 1;
        int sets = 1 << now.count;
        // The sets go up, so the least of those that are alike in size is met first.
        for (int set = 0; set < sets; set++) {
            int size = Integer.bitCount(set);
            if (size < fewest && (set & now.folded) == 0 && isCarriedIfAtSea(set)) {
                best = set;
                fewest = size;
            }
        }
        return best;
    }

    public int blow(int way) {
        if (!hasFront()) {
            return STATE;
        }
        if (!isWay(way)) {
            return OUTSIDE;
        }
        for (int v = 0; v <= STRONGEST_GUST; v++) {
            trial.becomes(now);
            trial.blown(way, v);
            if (trial.isCarried()) {
                return v;
            }
        }
        return NONE;
    }

    public int wards(int n, int k) {
        if (!hasFront()) {
            return STATE;
        }
        if (n < 1 || n > MOST_CHAIRS || k < -1 || k >= MOST_CHAIRS) {
            return OUTSIDE;
        }
        if (n > now.count || k >= n) {
            return NONE;
        }
        for (int chair = 0; chair < now.count; chair++) {
            tilts[chair] = now.tilt(chair);
        }
        int cuts = fairestCuts(n);
        return k < 0 ? wardsWon(cuts) : firstOfWard(cuts, k);
    }

    public long power(int stripe, int which) {
        if (!isStripe(stripe) || !isUpperOrLower(which) || !hasFront()) {
            return LOST;
        }
        int own = 1 << stripe;
        int sets = 1 << STRIPES;
        int total = now.votesOfStripes(sets - 1);
        int decided = 0;
        for (int others = 0; others < sets; others++) {
            if ((others & own) == 0 && 2 * now.votesOfStripes(others) <= total
                    && 2 * now.votesOfStripes(others | own) > total) {
                decided++;
            }
        }
        return share(decided, sets / 2, which);
    }

    private boolean isCarriedIfAtSea(int set) {
        trial.becomes(now);
        for (int k = 0; k < trial.count; k++) {
            if (isIn(set, k)) {
                trial.turned(k, SEA);
            }
        }
        return trial.isCarried();
    }

    /**
     * Cuts are told as a set in which the first chair is the highest bit: of rows of beginnings
     * the first one is then the greatest number, so going down meets it first.
     */
    private int fairestCuts(int n) {
        int best = 0;
        int most = -1;
        int least = 1 << (now.count - 1);
        for (int cuts = 2 * least - 1; cuts >= least; cuts--) {
            if (Integer.bitCount(cuts) == n && wardsWon(cuts) > most) {
                best = cuts;
                most = wardsWon(cuts);
            }
        }
        return best;
    }

    private boolean beginsWard(int cuts, int chair) {
        return isIn(cuts, now.count - 1 - chair);
    }

    private int wardsWon(int cuts) {
        int won = 0;
        int tilt = 0;
        for (int chair = 0; chair < now.count; chair++) {
            if (beginsWard(cuts, chair)) {
                won += tilt > 0 ? 1 : 0;
                tilt = 0;
            }
            tilt += tilts[chair];
        }
        return tilt > 0 ? won + 1 : won;
    }

    private int firstOfWard(int cuts, int ward) {
        int begun = 0;
        for (int chair = 0; chair < now.count; chair++) {
            if (beginsWard(cuts, chair)) {
                if (begun == ward) {
                    return chair;
                }
                begun++;
            }
        }
        return NONE;
    }

    private static boolean isUpperOrLower(int which) {
        return which == 0 || which == 1;
    }

    /** The lower number is a power of two, so halving both is all that least terms need. */
    private static long share(int upper, int lower, int which) {
        int up = upper;
        int low = lower;
        for (int halved = 0; halved < MOST_CHAIRS && low > 1 && (up & 1) == 0; halved++) {
            up /= 2;
            low /= 2;
        }
        return which == 0 ? up : low;
    }

    private static boolean isIn(int set, int k) {
        return (set >> k & 1) != 0;
    }

    // ---- 4 what they counted

    public int reading(int k, int v) {
        if (!now.has(k)) {
            return UNKNOWN;
        }
        if (v < 0 || v > MOST_VOTES_READ) {
            return OUTSIDE;
        }
        if (readings >= MOST_READINGS) {
            return FULL;
        }
        readChair[readings] = k;
        readVotes[readings] = v;
        readings++;
        return readings - 1;
    }

    public int back(int k) {
        if (k < 0 || k > readings) {
            return OUTSIDE;
        }
        readings -= k;
        return readings;
    }

    public int weights(int k) {
        if (!now.has(k)) {
            return UNKNOWN;
        }
        int set = 0;
        for (int weight = LIGHTEST; weight <= HEAVIEST; weight++) {
            if (allReadingsAreSo(k, now.kind[k], weight)) {
                set |= 1 << weight;
            }
        }
        return set;
    }

    public int kinds(int k) {
        if (!now.has(k)) {
            return UNKNOWN;
        }
        int set = 0;
        for (int kind = PLAIN; kind <= BROKEN; kind++) {
            if (allReadingsAreSo(k, kind, now.weight[k])) {
                set |= 1 << kind;
            }
        }
        return set;
    }

    public long odds(int k, int which) {
        if (!hasFront() || (k != -1 && !now.has(k)) || !isUpperOrLower(which)) {
            return LOST;
        }
        // One that is FOLDED has no VOTES: to let it look either way, too, leaves the shares alike.
        int ways = 1 << now.count;
        if (k == -1) {
            return share(waysThatCarry(ways), ways, which);
        }
        if (now.isFolded(k)) {
            return LOST;
        }
        return share(waysDecidedBy(k, ways), ways / 2, which);
    }

    private boolean allReadingsAreSo(int k, int kind, int weight) {
        for (int r = 0; r < readings; r++) {
            int chair = readChair[r];
            int votes = chair == k ? votesAs(kind, weight) : now.votesWhenOpen(chair);
            if (votes != readVotes[r]) {
                return false;
            }
        }
        return true;
    }

    private int waysThatCarry(int ways) {
        int total = now.votesIn(ways - 1);
        int carried = 0;
        for (int atSea = 0; atSea < ways; atSea++) {
            if (2 * now.votesIn(atSea) > total) {
                carried++;
            }
        }
        return carried;
    }

    private int waysDecidedBy(int k, int ways) {
        int total = now.votesIn(ways - 1);
        int own = 2 * now.votes(k);
        int decided = 0;
        for (int others = 0; others < ways; others++) {
            if (!isIn(others, k)) {
                int twice = 2 * now.votesIn(others);
                decided += twice <= total && twice + own > total ? 1 : 0;
            }
        }
        return decided;
    }

    private static int votesAs(int kind, int weight) {
        switch (kind) {
            case PLAIN: return weight;
            case SHADED: return weight + 1;
            default: return (weight + 1) / 2;
        }
    }

    // ---- 5 sheets, parts

    public int sheet(int k, int lane, int n) {
        latestFault = NO_FAULT;
        Sheet sheet = sheetAt(k);
        if (sheet == null) {
            return UNKNOWN;
        }
        if (!isLane(lane) || n > MOST_CELLS) {
            return OUTSIDE;
        }
        if (n < 0) {
            return faulted(SIZE);
        }
        sheet.getsRow(lane, n);
        return TAKEN;
    }

    public int lose(int k) {
        Sheet sheet = sheetAt(k);
        if (sheet == null) {
            return UNKNOWN;
        }
        boolean had = sheet.hasRow;
        sheet.hasRow = false;
        return had ? 1 : 0;
    }

    public int put(int k, int i, int v) {
        latestFault = NO_FAULT;
        Sheet sheet = sheetAt(k);
        if (sheet == null) {
            return UNKNOWN;
        }
        if (!sheet.hasRow) {
            return faulted(NULL);
        }
        if (!sheet.holds(i, 1)) {
            return faulted(INDEX);
        }
        sheet.becomesAt(i, v);
        return TAKEN;
    }

    public long cell(int k, int i, int lane) {
        latestFault = NO_FAULT;
        Sheet sheet = sheetAt(k);
        if (sheet == null || !isLane(lane)) {
            return LOST;
        }
        latestFault = sheet.faultAs(lane);
        if (latestFault == NO_FAULT && !sheet.holds(i, 1)) {
            latestFault = INDEX;
        }
        return latestFault == NO_FAULT ? sheet.at(i) : LOST;
    }

    public int copy(int k, int i, int other, int j, int n) {
        latestFault = NO_FAULT;
        Sheet from = sheetAt(k);
        Sheet to = sheetAt(other);
        if (from == null || to == null) {
            return UNKNOWN;
        }
        if (!from.hasRow || !to.hasRow) {
            return faulted(NULL);
        }
        if (from.lane != to.lane) {
            return faulted(CAST);
        }
        if (!from.holds(i, n) || !to.holds(j, n)) {
            return faulted(INDEX);
        }
        System.arraycopy(from.cells, i, to.cells, j, n);
        return n;
    }

    public int tell(int k) {
        if (!now.has(k)) {
            return UNKNOWN;
        }
        switch (now.kind[k]) {
            case PLAIN: return toldAsPlain(now.weight[k]);
            case SHADED: return toldAsShaded(now.weight[k]);
            default: return toldAsBroken(now.weight[k]);
        }
    }

    public int chalk(int k) {
        if (!now.has(k)) {
            return UNKNOWN;
        }
        if (now.kind[k] == BROKEN) {
            leaveInTrace(5);
            return 40;
        }
        leaveInTrace(4);
        return k;
    }

    public int as(int k, int kind) {
        latestFault = NO_FAULT;
        if (!now.has(k)) {
            return UNKNOWN;
        }
        if (kind < PLAIN || kind > BROKEN) {
            return OUTSIDE;
        }
        // Each kind is one of the kinds with a lower number, too.
        return now.kind[k] >= kind ? TAKEN : faulted(CAST);
    }

    public int trace() {
        return traced;
    }

    public int fault() {
        return latestFault;
    }

    public int many(int what) {
        switch (what) {
            case 0: return now.count;
            case 1: return Integer.bitCount(now.folded);
            case 2: return now.votesOfStripes((1 << STRIPES) - 1);
            case 3: return readings;
            default: return OUTSIDE;
        }
    }

    private Sheet sheetAt(int k) {
        return k >= 0 && k < sheets.length ? sheets[k] : null;
    }

    private static boolean isLane(int lane) {
        return lane >= BYTES && lane <= INTS;
    }

    private int faulted(int fault) {
        latestFault = fault;
        return BELOW_FAULTS - fault;
    }

    private int toldAsPlain(int weight) {
        leaveInTrace(1);
        return weight;
    }

    private int toldAsShaded(int weight) {
        leaveInTrace(2);
        return toldAsPlain(weight) + 100;
    }

    private int toldAsBroken(int weight) {
        leaveInTrace(3);
        int shaded = toldAsShaded(weight);
        return shaded + toldAsPlain(weight);
    }

    private void leaveInTrace(int body) {
        traced = 31 * traced + body;
    }

    /** The chairs side by side: what they are and how they have been left. */
    private static final class Row {
        final int[] kind = new int[MOST_CHAIRS];
        final int[] stripe = new int[MOST_CHAIRS];
        final int[] weight = new int[MOST_CHAIRS];
        final int[] looks = new int[MOST_CHAIRS];
        int count = 0;
        int folded = 0;

        boolean has(int k) {
            return k >= 0 && k < count;
        }

        boolean isFolded(int k) {
            return (folded >> k & 1) != 0;
        }

        void becomes(Row other) {
            System.arraycopy(other.kind, 0, kind, 0, MOST_CHAIRS);
            System.arraycopy(other.stripe, 0, stripe, 0, MOST_CHAIRS);
            System.arraycopy(other.weight, 0, weight, 0, MOST_CHAIRS);
            System.arraycopy(other.looks, 0, looks, 0, MOST_CHAIRS);
            count = other.count;
            folded = other.folded;
        }

        int votesWhenOpen(int k) {
            return has(k) ? votesAs(kind[k], weight[k]) : 0;
        }

        int votes(int k) {
            return isFolded(k) ? 0 : votesWhenOpen(k);
        }

        /** Whether a chair and the one to the right of it MEET. */
        boolean meetsNext(int k) {
            return has(k) && has(k + 1) && !isFolded(k) && !isFolded(k + 1)
                    && looks[k] == RIGHT && looks[k + 1] == LEFT;
        }

        int side(int k) {
            if (!has(k) || isFolded(k)) {
                return NEITHER;
            }
            if (meetsNext(k)) {
                return stripe[k] == stripe[k + 1] ? FOR : AGAINST;
            }
            if (meetsNext(k - 1)) {
                return stripe[k] == stripe[k - 1] ? FOR : AGAINST;
            }
            switch (looks[k]) {
                case SEA: return FOR;
                case LAND: return AGAINST;
                default: return NEITHER;
            }
        }

        /** By how many VOTES a chair helps it to be CARRIED (below 0: it hinders). */
        int tilt(int k) {
            switch (side(k)) {
                case FOR: return votes(k);
                case AGAINST: return -votes(k);
                default: return 0;
            }
        }

        boolean isCarried() {
            int sum = 0;
            for (int k = 0; k < count; k++) {
                sum += tilt(k);
            }
            return sum > 0;
        }

        int chairsOf(int side) {
            int set = 0;
            for (int k = 0; k < count; k++) {
                if (side(k) == side) {
                    set |= 1 << k;
                }
            }
            return set;
        }

        int votesOf(int side) {
            return votesIn(chairsOf(side));
        }

        int votesIn(int set) {
            int sum = 0;
            for (int k = 0; k < count; k++) {
                if (isIn(set, k)) {
                    sum += votes(k);
                }
            }
            return sum;
        }

        int votesOfStripes(int stripes) {
            int sum = 0;
            for (int k = 0; k < count; k++) {
                if (isIn(stripes, stripe[k])) {
                    sum += votes(k);
                }
            }
            return sum;
        }

        boolean turned(int k, int way) {
            if (!has(k) || isFolded(k)) {
                return false;
            }
            looks[k] = way;
            return true;
        }

        int blown(int way, int v) {
            int changed = 0;
            for (int k = 0; k < count; k++) {
                if (!isFolded(k) && weight[k] < v && looks[k] != way) {
                    looks[k] = way;
                    changed++;
                }
            }
            return changed;
        }

        int foldedByRain() {
            int ahead = Integer.bitCount(folded);
            folded = (1 << count) - 1;
            return count - ahead;
        }

        boolean opened(int k) {
            if (!has(k) || !isFolded(k)) {
                return false;
            }
            folded &= ~(1 << k);
            return true;
        }

        /** Whether an act of a DAY could be; if so, it is done. */
        boolean acted(int first, int second) {
            if (second == OPEN_ACT) {
                return opened(first);
            }
            if (second == RAIN_ACT) {
                foldedByRain();
                return true;
            }
            if (second >= GUST_ACTS) {
                blown(second - GUST_ACTS, first);
                return true;
            }
            return turned(first, second);
        }
    }

    /** A row of cells of a LANE, or nothing; the same cells serve every row that it gets. */
    private static final class Sheet {
        final int[] cells = new int[MOST_CELLS];
        boolean hasRow = false;
        int lane = BYTES;
        int length = 0;

        void getsRow(int newLane, int n) {
            hasRow = true;
            lane = newLane;
            length = Math.min(n, MOST_CELLS);
            for (int i = 0; i < length; i++) {
                cells[i] = 0;
            }
        }

        /** What fault there is, when it is taken as a row of a LANE. */
        int faultAs(int wanted) {
            if (!hasRow) {
                return NULL;
            }
            return lane == wanted ? NO_FAULT : CAST;
        }

        boolean holds(int i, int n) {
            return i >= 0 && i <= length && n >= 0 && n <= length - i;
        }

        int at(int i) {
            return holds(i, 1) ? cells[i] : 0;
        }

        void becomesAt(int i, int v) {
            if (holds(i, 1)) {
                cells[i] = cut(v);
            }
        }

        int cut(int v) {
            switch (lane) {
                case BYTES: return (byte) v;
                case SHORTS: return (short) v;
                default: return v;
            }
        }
    }
}
