import java.util.Arrays;

/**
 * Things tied to one another that are to stand in a row: rows and texts, a world of ties and rules,
 * measures of its orders, the least of each measure, what ties and rules cost, swaps, moves, lots.
 */
public final class TiedRow {
    public static final int BAD = -1, FULL = -2, FINDING = -3, STATE = -4, SPENT = -6, NONE = -9;

    private static final int NOTHING = 1, BEYOND = 2, UNLIKE = 3, NOUGHT = 4, SIZE = 5;
    private static final int NOTE = 0, AHEAD = 1, RIGHT = 2, PLACED = 3, EARLY = 4, APART = 5, BETWEEN = 6;
    private static final int SUM = 0, CUT = 1, HELD = 2, PROFILE = 3, LONG = 4;
    /** No measure of the document: each order has 0 of it, so all that are allowed are its least ones. */
    private static final int PLAIN = 5;

    private static final int ROWS = 6, ROW_MOST = 60, TEXTS = 4, TEXT_MOST = 120, BLANK = 32;
    private static final int THINGS_MOST = 10, RULES_MOST = 8, WEIGHT_MOST = 9, PLACE_MOST = 9;
    private static final int SETS = 1 << THINGS_MOST;
    /** LONG is found by walking through orders: so many things, so many orders at most. */
    private static final int WALK_MOST = 8, WALK_ORDERS = 40320;
    /** Above every measure, and far enough from the greatest int to be added to. */
    private static final int NEVER = 1 << 28;
    private static final int LOTS_MOST = 200, ROUNDS_MOST = 1000000;
    private static final long LOT_FACTOR = 48271L, LOT_MODULUS = 2147483647L;

    private final Line[] rows = new Line[ROWS];
    private final Line[] texts = new Line[TEXTS];
    private final Reader reader = new Reader();
    /** The walk makes its search, and the search its world: so no constructor hands out a part of what it makes. */
    private final LongWalk walk = new LongWalk();
    private final SetSearch search = walk.search;
    private final World world = search.world;
    private final int[] findingCounts = new int[SIZE + 1];
    private final int[] current = new int[THINGS_MOST];
    private final int[] trial = new int[THINGS_MOST];
    private final int[] better = new int[THINGS_MOST];
    private final int[] spread = new int[THINGS_MOST];
    private int lastFinding = 0;
    private int lastAsked = 0;
    private long lastUpper = 0;
    private long lastLower = 1;

    /** The measure whose least orders stand in solved (null: none is allowed); NONE if the world has changed. */
    private int solvedMeasure = NONE;
    private LeastOrders solved = null;

    public TiedRow() {
        for (int r = 0; r < ROWS; r++) {
            rows[r] = new Line(ROW_MOST);
        }
        for (int t = 0; t < TEXTS; t++) {
            texts[t] = new Line(TEXT_MOST);
        }
    }

    // ---- 1 rows, texts, worlds

    public int row(int r, int n) {
        if (!isRow(r) || n > ROW_MOST) {
            return BAD;
        }
        if (n < 0) {
            return found(SIZE);
        }
        rows[r].make(n, 0);
        return n;
    }

    public int lay(int r, int i, int v) {
        if (!isRow(r)) {
            return BAD;
        }
        int fault = rows[r].faultAt(i);
        if (fault != 0) {
            return found(fault);
        }
        lastAsked = rows[r].cells[i];
        rows[r].cells[i] = v;
        return 1;
    }

    public int at(int r, int i) {
        if (!isRow(r)) {
            return BAD;
        }
        int fault = rows[r].faultAt(i);
        if (fault != 0) {
            return found(fault);
        }
        lastAsked = rows[r].cells[i];
        return 1;
    }

    public int tear(int r) {
        if (!isRow(r)) {
            return BAD;
        }
        if (rows[r].isMissing()) {
            return found(NOTHING);
        }
        rows[r].size = -1;
        return 1;
    }

    public int copy(int r, int i, int to, int j, int n) {
        if (!isRow(r) || !isRow(to)) {
            return BAD;
        }
        if (n < 0) {
            return found(SIZE);
        }
        if (rows[r].isMissing() || rows[to].isMissing()) {
            return found(NOTHING);
        }
        if (!rows[r].holdsRun(i, n) || !rows[to].holdsRun(j, n)) {
            return found(BEYOND);
        }
        System.arraycopy(rows[r].cells, i, rows[to].cells, j, n);
        return 1;
    }

    public int mean(int r) {
        if (!isRow(r)) {
            return BAD;
        }
        if (rows[r].isMissing()) {
            return found(NOTHING);
        }
        int n = rows[r].size;
        if (n == 0) {
            return found(NOUGHT);
        }
        long sum = 0;
        for (int i = 0; i < n; i++) {
            sum += rows[r].cells[i];
        }
        lastAsked = (int) (sum / n);
        return 1;
    }

    public int text(int t, int n) {
        if (!isText(t) || n > TEXT_MOST) {
            return BAD;
        }
        if (n < 0) {
            return found(SIZE);
        }
        texts[t].make(n, BLANK);
        return n;
    }

    public int put(int t, int i, int v) {
        if (!isText(t)) {
            return BAD;
        }
        int fault = texts[t].faultAt(i);
        if (fault != 0) {
            return found(fault);
        }
        int was = texts[t].cells[i];
        texts[t].cells[i] = (byte) v;
        return was + 1000;
    }

    public int fault(int t) {
        if (!isText(t)) {
            return BAD;
        }
        if (texts[t].isMissing()) {
            return found(NOTHING);
        }
        return reader.read(texts[t]);
    }

    public int world(int t) {
        if (!isText(t)) {
            return BAD;
        }
        if (texts[t].isMissing()) {
            return found(NOTHING);
        }
        if (reader.read(texts[t]) != NONE) {
            return STATE;
        }
        world.take(reader.world);
        forget();
        return world.things;
    }

    public int tie(int a, int b, int w) {
        if (!world.areUnlike(a, b) || w != NONE && (w < 0 || w > WEIGHT_MOST)) {
            return BAD;
        }
        int was = world.weights[a][b];
        if (w != NONE) {
            world.setTie(a, b, w);
            forget();
        }
        return was;
    }

    public int rule(int kind, int a, int b, int c) {
        if (!world.canRule(kind, a, b, c)) {
            return BAD;
        }
        if (world.rules == RULES_MOST) {
            return FULL;
        }
        forget();
        return world.addRule(kind, a, b, c);
    }

    public int off(int k, int is) {
        if (!world.isRule(k) || is != 0 && is != 1) {
            return BAD;
        }
        int was = world.isOff(k) ? 1 : 0;
        world.setOff(k, is == 1);
        forget();
        return was;
    }

    public int back(int n) {
        if (n < 0 || n > world.rules) {
            return BAD;
        }
        int went = world.rules - n;
        world.dropRules(n);
        forget();
        return went;
    }

    public int told(int k, int what) {
        if (!world.isRule(k) || what < 0 || what > 4) {
            return BAD;
        }
        lastAsked = world.ruleNumber(k, what);
        return 1;
    }

    public int mark(int k, int kind) {
        if (!world.isRule(k) || kind < AHEAD || kind > BETWEEN) {
            return BAD;
        }
        if (!world.isOfKind(k, kind)) {
            return found(UNLIKE);
        }
        return world.markOf(k, kind);
    }

    // ---- 2 measures

    public int measure(int m, int r) {
        if (!isMeasure(m) || !isRow(r)) {
            return BAD;
        }
        int fault = orderFault(r);
        if (fault != 0) {
            return found(fault);
        }
        return world.measured(m, rows[r].cells);
    }

    public int breaks(int r) {
        if (!isRow(r)) {
            return BAD;
        }
        int fault = orderFault(r);
        if (fault != 0) {
            return found(fault);
        }
        return world.firstBroken(rows[r].cells);
    }

    public int gap(int r, int i) {
        if (!isRow(r) || i < 0 || i > THINGS_MOST - 2) {
            return BAD;
        }
        int fault = orderFault(r);
        if (fault == 0 && i > world.things - 2) {
            fault = BEYOND;
        }
        if (fault != 0) {
            return found(fault);
        }
        int set = 0;
        int across = 0;
        for (int p = 0; p <= i; p++) {
            int x = rows[r].cells[p];
            across += world.weightAdded(x, set);
            set |= 1 << x;
        }
        lastAsked = world.heldBy(set);
        return across;
    }

    public int least(int m) {
        if (!isMeasure(m)) {
            return BAD;
        }
        LeastOrders leasts = leastsOf(m);
        return leasts == null ? noLeast(m) : leasts.value();
    }

    public int first(int m, int r) {
        if (!isMeasure(m) || !isRow(r)) {
            return BAD;
        }
        LeastOrders leasts = leastsOf(m);
        if (leasts == null) {
            return noLeast(m);
        }
        leasts.pick(0, trial);
        layOrder(r, trial);
        return leasts.value();
    }

    public int ways(int m) {
        if (!isMeasure(m)) {
            return BAD;
        }
        if (isSpent(m)) {
            return SPENT;
        }
        LeastOrders leasts = leastsOf(m);
        return leasts == null ? 0 : leasts.number();
    }

    public int rank(int m, int r) {
        if (!isMeasure(m) || !isRow(r)) {
            return BAD;
        }
        int fault = orderFault(r);
        if (fault != 0) {
            return found(fault);
        }
        LeastOrders leasts = leastsOf(m);
        return leasts == null ? noLeast(m) : leasts.indexOf(rows[r].cells);
    }

    public int order(int m, int k, int r) {
        if (!isMeasure(m) || k < 0 || !isRow(r)) {
            return BAD;
        }
        LeastOrders leasts = leastsOf(m);
        if (leasts == null) {
            return noLeast(m);
        }
        if (k >= leasts.number()) {
            return found(BEYOND);
        }
        leasts.pick(k, trial);
        layOrder(r, trial);
        return 1;
    }

    public int all() {
        LeastOrders leasts = leastsOf(PLAIN);
        return leasts == null ? 0 : leasts.number();
    }

    public int bound(int m) {
        if (!isMeasure(m)) {
            return BAD;
        }
        return world.boundOf(m);
    }

    // ---- 3 what it costs, where one can be

    public int costs(int m, int a, int b) {
        if (!isMeasure(m) || !world.areUnlike(a, b)) {
            return BAD;
        }
        LeastOrders leasts = leastsOf(m);
        if (leasts == null) {
            return noLeast(m);
        }
        int w = world.weights[a][b];
        if (w == 0) {
            return 0;
        }
        int with = leasts.value();
        world.setTie(a, b, 0);
        forget();
        int without = valueOr(leastsOf(m), with);
        world.setTie(a, b, w);
        forget();
        return with - without;
    }

    public int bars(int m, int k) {
        if (!isMeasure(m) || !world.isRule(k)) {
            return BAD;
        }
        LeastOrders leasts = leastsOf(m);
        if (leasts == null) {
            return noLeast(m);
        }
        if (world.isOff(k)) {
            return 0;
        }
        int with = leasts.value();
        world.setOff(k, true);
        forget();
        int without = valueOr(leastsOf(m), with);
        world.setOff(k, false);
        forget();
        return with - without;
    }

    public int where(int m, int a, int p) {
        if (!isMeasure(m) || !world.isThing(a) || p < 0 || p >= world.things) {
            return BAD;
        }
        if (isSpent(m)) {
            return SPENT;
        }
        search.pin(a, p);
        forget();
        int value = valueOr(leastsOf(m), NONE);
        search.unpin();
        forget();
        // If some order has it there, some order is allowed: only otherwise that has to be asked.
        return value == NONE && leastsOf(PLAIN) == null ? found(NOUGHT) : value;
    }

    public int places(int m, int a) {
        if (!isMeasure(m) || !world.isThing(a)) {
            return BAD;
        }
        LeastOrders leasts = leastsOf(m);
        if (leasts == null) {
            return noLeast(m);
        }
        leasts.spreadOf(a, spread);
        int bits = 0;
        for (int p = 0; p < world.things; p++) {
            if (spread[p] > 0) {
                bits |= 1 << p;
            }
        }
        return bits;
    }

    public int middle(int m, int a) {
        if (!isMeasure(m) || !world.isThing(a)) {
            return BAD;
        }
        LeastOrders leasts = leastsOf(m);
        if (leasts == null) {
            return noLeast(m);
        }
        leasts.spreadOf(a, spread);
        long sum = 0;
        for (int p = 0; p < world.things; p++) {
            sum += (long) p * spread[p];
        }
        tellFraction(sum, leasts.number());
        return leasts.number();
    }

    public int leads(int m, int a, int b) {
        if (!isMeasure(m) || !world.areUnlike(a, b)) {
            return BAD;
        }
        LeastOrders leasts = leastsOf(m);
        if (leasts == null) {
            return noLeast(m);
        }
        lastAsked = leasts.numberAhead(a, b);
        if (lastAsked == 0) {
            return 0;
        }
        return lastAsked == leasts.number() ? 2 : 1;
    }

    public int both(int m, int l) {
        if (!isMeasure(m) || !isMeasure(l)) {
            return BAD;
        }
        if (isSpent(l)) {
            return SPENT;
        }
        LeastOrders leasts = leastsOf(m);
        if (leasts == null) {
            return noLeast(m);
        }
        if (m == l) {
            lastAsked = leasts.number();
            return leasts.value();
        }
        if (m == LONG) {
            walk.compare(l);
            lastAsked = walk.otherNumber;
            return walk.otherLeast;
        }
        LeastOrders among = l == LONG ? walked() : solvedWithin(l);
        lastAsked = among.number();
        return among.value();
    }

    public int must() {
        int broken = search.leastBroken();
        forget();
        lastAsked = broken & (1 << RULES_MOST) - 1;
        return broken >> RULES_MOST;
    }

    // ---- 4 swaps, moves, lots

    public int swaps(int m, int r) {
        return improved(m, r, false);
    }

    public int moves(int m, int r) {
        return improved(m, r, true);
    }

    public int apart(int r, int other) {
        if (!isRow(r) || !isRow(other)) {
            return BAD;
        }
        int fault = bothOrdersFault(r, other);
        if (fault != 0) {
            return found(fault);
        }
        int[] one = rows[r].cells;
        int[] seats = trial;
        world.seatsOf(rows[other].cells, seats);
        int turned = 0;
        for (int i = 0; i < world.things; i++) {
            for (int j = i + 1; j < world.things; j++) {
                if (seats[one[i]] > seats[one[j]]) {
                    turned++;
                }
            }
        }
        return turned;
    }

    public int draw(int seed, int r) {
        if (!isSeed(seed) || !isRow(r)) {
            return BAD;
        }
        int number = drawOrder(seed, trial);
        layOrder(r, trial);
        return number;
    }

    public int lots(int m, int n, int seed) {
        if (!isMeasure(m) || n < 1 || n > LOTS_MOST || !isSeed(seed)) {
            return BAD;
        }
        int number = seed;
        int allowed = 0;
        int best = NONE;
        for (int i = 0; i < n; i++) {
            number = drawOrder(number, trial);
            if (world.firstBroken(trial) != NONE) {
                continue;
            }
            int value = world.measured(m, trial);
            if (allowed == 0 || value < best) {
                best = value;
            }
            allowed++;
        }
        lastAsked = best;
        return allowed;
    }

    public int average() {
        if (world.things == 0) {
            return found(NOUGHT);
        }
        // Two places of n are (n + 1) / 3 apart on average, and the mean of a sum is the sum of means.
        tellFraction((long) world.allWeight() * (world.things + 1), 3);
        return 1;
    }

    public int image(int r) {
        if (!isRow(r)) {
            return BAD;
        }
        int size = imageSize();
        rows[r].make(size, 0);
        int i = 0;
        for (int a = 0; a < world.things; a++) {
            for (int b = a + 1; b < world.things; b++) {
                rows[r].cells[i] = world.weights[a][b];
                i++;
            }
        }
        rows[r].cells[i] = world.offBits;
        return size;
    }

    public int on(int r) {
        if (!isRow(r)) {
            return BAD;
        }
        int fault = imageFault(r);
        if (fault != 0) {
            return found(fault);
        }
        int i = 0;
        for (int a = 0; a < world.things; a++) {
            for (int b = a + 1; b < world.things; b++) {
                world.setTie(a, b, rows[r].cells[i]);
                i++;
            }
        }
        world.offBits = rows[r].cells[i];
        forget();
        return 1;
    }

    // ---- 5 what is told

    public int asked() {
        return lastAsked;
    }

    public long upper() {
        return lastUpper;
    }

    public long lower() {
        return lastLower;
    }

    public int count(int what) {
        switch (what) {
            case 0: return world.things;
            case 1: return world.tieCount();
            case 2: return world.rules;
            case 3: return world.aheadCount();
            case 4: return Integer.bitCount(world.offBits);
            case 5: return thereOf(rows);
            case 6: return thereOf(texts);
            default: return BAD;
        }
    }

    public int finding() {
        return lastFinding;
    }

    public int findings(int f) {
        if (f < NOTHING || f > SIZE) {
            return BAD;
        }
        return findingCounts[f];
    }

    public long digest() {
        long h = 17;
        for (int what = 0; what <= 6; what++) {
            h = 31 * h + count(what);
        }
        for (int a = 0; a < world.things; a++) {
            for (int b = a + 1; b < world.things; b++) {
                h = 31 * h + world.weights[a][b];
            }
        }
        for (int k = 0; k < world.rules; k++) {
            for (int what = 0; what <= 4; what++) {
                h = 31 * h + world.ruleNumber(k, what);
            }
        }
        h = digestOf(rows, h);
        return digestOf(texts, h);
    }

    // ---- what the calls share

    private static boolean isRow(int r) {
        return r >= 0 && r < ROWS;
    }

    private static boolean isText(int t) {
        return t >= 0 && t < TEXTS;
    }

    private static boolean isMeasure(int m) {
        return m >= SUM && m <= LONG;
    }

    private static boolean isSeed(int seed) {
        return seed >= 1 && seed < LOT_MODULUS;
    }

    private int found(int f) {
        lastFinding = f;
        findingCounts[f]++;
        return FINDING;
    }

    private static int thereOf(Line[] lines) {
        int there = 0;
        for (int i = 0; i < lines.length; i++) {
            if (!lines[i].isMissing()) {
                there++;
            }
        }
        return there;
    }

    private static long digestOf(Line[] lines, long from) {
        long h = from;
        for (int i = 0; i < lines.length; i++) {
            h = 31 * h + lines[i].size;
            for (int j = 0; j < lines[i].size; j++) {
                h = 31 * h + lines[i].cells[j];
            }
        }
        return h;
    }

    /** The finding that keeps a row from being an order; 0: it is one. */
    private int orderFault(int r) {
        if (rows[r].isMissing()) {
            return NOTHING;
        }
        if (rows[r].size != world.things) {
            return SIZE;
        }
        return world.isOrder(rows[r].cells) ? 0 : UNLIKE;
    }

    /** The same of two rows: each finding of either one comes ahead of the next finding of both. */
    private int bothOrdersFault(int r, int other) {
        int one = orderFault(r);
        int two = orderFault(other);
        if (one == NOTHING || two == NOTHING) {
            return NOTHING;
        }
        if (one == SIZE || two == SIZE) {
            return SIZE;
        }
        return one != 0 ? one : two;
    }

    private void layOrder(int r, int[] order) {
        rows[r].make(world.things, 0);
        System.arraycopy(order, 0, rows[r].cells, 0, world.things);
    }

    private int imageSize() {
        return world.things * (world.things - 1) / 2 + 1;
    }

    private int imageFault(int r) {
        if (rows[r].isMissing()) {
            return NOTHING;
        }
        int size = imageSize();
        if (rows[r].size != size) {
            return SIZE;
        }
        for (int i = 0; i < size - 1; i++) {
            if (rows[r].cells[i] < 0 || rows[r].cells[i] > WEIGHT_MOST) {
                return UNLIKE;
            }
        }
        int bits = rows[r].cells[size - 1];
        return bits < 0 || bits >= 1 << world.rules ? UNLIKE : 0;
    }

    private void tellFraction(long above, long below) {
        long a = above;
        long b = below;
        // Euclid's way takes fewer than a hundred steps for any two longs.
        for (int i = 0; i < 100 && b != 0; i++) {
            long rest = a % b;
            a = b;
            b = rest;
        }
        if (a != 0) {
            lastUpper = above / a;
            lastLower = below / a;
        }
    }

    private int drawOrder(int seed, int[] into) {
        long number = seed;
        int left = world.everything();
        for (int i = 0; i < world.things; i++) {
            number = number * LOT_FACTOR % LOT_MODULUS;
            int x = world.memberOf(left, (int) (number % (world.things - i)));
            into[i] = x;
            left &= ~(1 << x);
        }
        return (int) number;
    }

    // ---- least orders

    private static int valueOr(LeastOrders leasts, int otherwise) {
        return leasts == null ? otherwise : leasts.value();
    }

    private boolean isSpent(int m) {
        return m == LONG && world.things > WALK_MOST;
    }

    /** What a call answers if leastsOf() a measure is null. */
    private int noLeast(int m) {
        return isSpent(m) ? SPENT : found(NOUGHT);
    }

    private void forget() {
        solvedMeasure = NONE;
        solved = null;
    }

    /** The least orders of a measure; null: it is spent, or no order is allowed. */
    private LeastOrders leastsOf(int m) {
        if (isSpent(m)) {
            return null;
        }
        if (solvedMeasure != m) {
            boolean some = search.solve(m == LONG ? PLAIN : m);
            solved = !some ? null : m == LONG ? walked() : search;
            solvedMeasure = m;
        }
        return solved;
    }

    /** The orders of the least LONG among those that the search has found. */
    private LeastOrders walked() {
        search.fillLeast();
        walk.go();
        return walk;
    }

    /** The least orders of a measure among those that the search has found, which are gone then. */
    private LeastOrders solvedWithin(int l) {
        search.solveWithin(l);
        forget();
        return search;
    }

    // ---- swaps and moves

    private int improved(int m, int r, boolean byMoves) {
        if (!isMeasure(m) || !isRow(r)) {
            return BAD;
        }
        int fault = orderFault(r);
        if (fault == 0 && world.firstBroken(rows[r].cells) != NONE) {
            fault = UNLIKE;
        }
        if (fault != 0) {
            return found(fault);
        }
        int n = world.things;
        System.arraycopy(rows[r].cells, 0, current, 0, n);
        int value = world.measured(m, current);
        int done = 0;
        // Each round lessens a measure that is far below the rounds there are.
        for (int round = 0; round < ROUNDS_MOST; round++) {
            int next = byMoves ? bestMove(m, value) : bestSwap(m, value);
            if (next >= value) {
                break;
            }
            System.arraycopy(better, 0, current, 0, n);
            value = next;
            done++;
        }
        System.arraycopy(current, 0, rows[r].cells, 0, n);
        lastAsked = value;
        return done;
    }

    private int bestSwap(int m, int value) {
        int best = value;
        int n = world.things;
        for (int i = 0; i + 1 < n; i++) {
            System.arraycopy(current, 0, trial, 0, n);
            trial[i] = current[i + 1];
            trial[i + 1] = current[i];
            best = keepIfBetter(m, best);
        }
        return best;
    }

    private int bestMove(int m, int value) {
        int best = value;
        for (int a = 0; a < world.things; a++) {
            for (int p = 0; p < world.things; p++) {
                if (current[p] != a) {
                    moveInto(a, p);
                    best = keepIfBetter(m, best);
                }
            }
        }
        return best;
    }

    private void moveInto(int a, int p) {
        int j = 0;
        for (int i = 0; i < world.things; i++) {
            if (current[i] != a) {
                if (j == p) {
                    j++;
                }
                trial[j] = current[i];
                j++;
            }
        }
        trial[p] = a;
    }

    private int keepIfBetter(int m, int best) {
        if (world.firstBroken(trial) != NONE) {
            return best;
        }
        int value = world.measured(m, trial);
        if (value >= best) {
            return best;
        }
        System.arraycopy(trial, 0, better, 0, world.things);
        return value;
    }

    /** Numbers in a row that may be missing: a row, or a text by its bytes. */
    private static final class Line {
        final int[] cells;
        int size = -1;

        Line(int most) {
            cells = new int[most];
        }

        boolean isMissing() {
            return size < 0;
        }

        void make(int n, int v) {
            size = n;
            Arrays.fill(cells, 0, n, v);
        }

        int faultAt(int i) {
            if (isMissing()) {
                return NOTHING;
            }
            return i < 0 || i >= size ? BEYOND : 0;
        }

        /** n is not below 0 here, so that size - n stays within the ints. */
        boolean holdsRun(int i, int n) {
            return i >= 0 && i <= size - n;
        }
    }

    /** Things, their ties and the rules of how they may stand. */
    private static final class World {
        int things = 0;
        int rules = 0;
        int offBits = 0;
        final int[][] weights = new int[THINGS_MOST][THINGS_MOST];
        /** Of each thing: those that it is tied to, and the weight of its ties together. */
        final int[] tied = new int[THINGS_MOST];
        final int[] load = new int[THINGS_MOST];
        private final int[] kinds = new int[RULES_MOST];
        private final int[] xs = new int[RULES_MOST];
        private final int[] ys = new int[RULES_MOST];
        private final int[] zs = new int[RULES_MOST];
        private final int[] seats = new int[THINGS_MOST];

        void clear(int n) {
            things = n;
            rules = 0;
            offBits = 0;
            for (int a = 0; a < THINGS_MOST; a++) {
                Arrays.fill(weights[a], 0);
                tied[a] = 0;
                load[a] = 0;
            }
        }

        void take(World other) {
            clear(other.things);
            for (int a = 0; a < things; a++) {
                for (int b = a + 1; b < things; b++) {
                    setTie(a, b, other.weights[a][b]);
                }
            }
            for (int k = 0; k < other.rules; k++) {
                addRule(other.kinds[k], other.xs[k], other.ys[k], other.zs[k]);
            }
        }

        // -- things and ties

        int everything() {
            return (1 << things) - 1;
        }

        boolean isThing(int a) {
            return a >= 0 && a < things;
        }

        boolean areUnlike(int a, int b) {
            return isThing(a) && isThing(b) && a != b;
        }

        /** The thing with so many lesser ones in a set. */
        int memberOf(int set, int index) {
            int before = 0;
            for (int x = 0; x < things; x++) {
                if ((set >> x & 1) != 0) {
                    if (before == index) {
                        return x;
                    }
                    before++;
                }
            }
            return 0;
        }

        void setTie(int a, int b, int w) {
            setSide(a, b, w);
            setSide(b, a, w);
        }

        private void setSide(int a, int b, int w) {
            load[a] += w - weights[a][b];
            weights[a][b] = w;
            tied[a] = w > 0 ? tied[a] | 1 << b : tied[a] & ~(1 << b);
        }

        int tieCount() {
            int ends = 0;
            for (int a = 0; a < things; a++) {
                ends += Integer.bitCount(tied[a]);
            }
            return ends / 2;
        }

        int allWeight() {
            int ends = 0;
            for (int a = 0; a < things; a++) {
                ends += load[a];
            }
            return ends / 2;
        }

        // -- rules

        boolean isRule(int k) {
            return k >= 0 && k < rules;
        }

        boolean canRule(int kind, int a, int b, int c) {
            switch (kind) {
                case NOTE:
                    return true;
                case AHEAD:
                case RIGHT:
                case APART:
                    return areUnlike(a, b);
                case PLACED:
                case EARLY:
                    return isThing(a) && b >= 0 && b <= PLACE_MOST;
                case BETWEEN:
                    return areUnlike(a, b) && areUnlike(a, c) && areUnlike(b, c);
                default:
                    return false;
            }
        }

        /** There is room for it, and canRule() it. */
        int addRule(int kind, int a, int b, int c) {
            int k = rules;
            kinds[k] = kind;
            xs[k] = kind == NOTE ? 0 : a;
            ys[k] = kind == NOTE ? 0 : b;
            zs[k] = kind == BETWEEN ? c : 0;
            rules++;
            return k;
        }

        void dropRules(int from) {
            rules = from;
            offBits &= (1 << from) - 1;
        }

        boolean isOff(int k) {
            return (offBits >> k & 1) != 0;
        }

        void setOff(int k, boolean is) {
            offBits = is ? offBits | 1 << k : offBits & ~(1 << k);
        }

        int ruleNumber(int k, int what) {
            switch (what) {
                case 0: return kinds[k];
                case 1: return xs[k];
                case 2: return ys[k];
                case 3: return zs[k];
                default: return isOff(k) ? 1 : 0;
            }
        }

        boolean isOfKind(int k, int kind) {
            return kinds[k] == kind
                || kind == AHEAD && kinds[k] == RIGHT
                || kind == APART && kinds[k] == BETWEEN;
        }

        int aheadCount() {
            int n = 0;
            for (int k = 0; k < rules; k++) {
                if (isOfKind(k, AHEAD)) {
                    n++;
                }
            }
            return n;
        }

        /** What a rule tells as one of a kind that it is of. */
        int markOf(int k, int kind) {
            switch (kind) {
                case RIGHT:
                case PLACED:
                    return ys[k];
                case EARLY:
                    return Math.min(ys[k], things - 1);
                case APART:
                    return kinds[k] == BETWEEN ? Math.min(ys[k], zs[k]) : Math.min(xs[k], ys[k]);
                default:
                    return xs[k];
            }
        }

        /** Those that a rule keeps from coming next behind a set, whoever of it is the last. */
        int barredBehind(int k, int set) {
            if (isOff(k)) {
                return 0;
            }
            switch (kinds[k]) {
                case AHEAD:
                    return (set >> xs[k] & 1) != 0 ? 0 : 1 << ys[k];
                case PLACED:
                    return Integer.bitCount(set) == ys[k] ? 0 : 1 << xs[k];
                case EARLY:
                    return Integer.bitCount(set) <= ys[k] ? 0 : 1 << xs[k];
                case BETWEEN:
                    return (set >> ys[k] & 1) != (set >> zs[k] & 1) ? 0 : 1 << xs[k];
                default:
                    return 0;
            }
        }

        /** Those that a rule keeps from coming right behind a thing (THINGS_MOST: from being the first). */
        int barredNextTo(int k, int last) {
            if (isOff(k)) {
                return 0;
            }
            switch (kinds[k]) {
                case RIGHT:
                    return last == xs[k] ? 0 : 1 << ys[k];
                case APART:
                    return last == xs[k] ? 1 << ys[k] : last == ys[k] ? 1 << xs[k] : 0;
                default:
                    return 0;
            }
        }

        // -- orders

        boolean isOrder(int[] row) {
            int seen = 0;
            for (int i = 0; i < things; i++) {
                if (!isThing(row[i])) {
                    return false;
                }
                seen |= 1 << row[i];
            }
            return seen == everything();
        }

        void seatsOf(int[] order, int[] into) {
            for (int i = 0; i < things; i++) {
                into[order[i]] = i;
            }
        }

        int firstBroken(int[] order) {
            seatsOf(order, seats);
            for (int k = 0; k < rules; k++) {
                if (!isOff(k) && !isKept(k)) {
                    return k;
                }
            }
            return NONE;
        }

        private boolean isKept(int k) {
            int x = seats[xs[k]];
            switch (kinds[k]) {
                case AHEAD:
                    return x < seats[ys[k]];
                case RIGHT:
                    return x + 1 == seats[ys[k]];
                case PLACED:
                    return x == ys[k];
                case EARLY:
                    return x <= ys[k];
                case APART:
                    return Math.abs(x - seats[ys[k]]) != 1;
                case BETWEEN:
                    return seats[ys[k]] < x != seats[zs[k]] < x;
                default:
                    return true;
            }
        }

        int measured(int m, int[] order) {
            if (m == LONG) {
                return longest(order);
            }
            int set = 0;
            int across = 0;
            int result = 0;
            for (int i = 0; i + 1 < things; i++) {
                across += weightAdded(order[i], set);
                set |= 1 << order[i];
                int value = m == SUM || m == CUT ? across : heldBy(set);
                result = m == SUM || m == PROFILE ? result + value : Math.max(result, value);
            }
            return result;
        }

        private int longest(int[] order) {
            int far = 0;
            for (int i = 0; i < things; i++) {
                for (int j = i + 1; j < things; j++) {
                    if (weights[order[i]][order[j]] > 0) {
                        far = Math.max(far, j - i);
                    }
                }
            }
            return far;
        }

        /** By how much the weight across grows (or is less) when a thing comes behind a set. */
        int weightAdded(int x, int set) {
            int settled = 0;
            for (int y = 0; y < things; y++) {
                if ((set >> y & 1) != 0) {
                    settled += weights[x][y];
                }
            }
            return load[x] - 2 * settled;
        }

        /** How many of a set have a tie to one that is not of it. */
        int heldBy(int set) {
            int held = 0;
            for (int y = 0; y < things; y++) {
                if ((set >> y & 1) != 0 && (tied[y] & ~set) != 0) {
                    held++;
                }
            }
            return held;
        }

        // -- bounds

        int boundOf(int m) {
            switch (m) {
                case SUM: return halfCutUp(nearestProducts());
                case CUT: return halfCutUp(mostLoad());
                case HELD: return fewestTies();
                case PROFILE: return things - groups();
                default: return halfCutUp(mostTies());
            }
        }

        private static int halfCutUp(int n) {
            return (n + 1) / 2;
        }

        private int nearestProducts() {
            int sum = 0;
            for (int a = 0; a < things; a++) {
                int before = 0;
                for (int w = WEIGHT_MOST; w > 0; w--) {
                    for (int b = 0; b < things; b++) {
                        if (weights[a][b] == w) {
                            sum += w * (before / 2 + 1);
                            before++;
                        }
                    }
                }
            }
            return sum;
        }

        private int mostLoad() {
            int most = 0;
            for (int a = 0; a < things; a++) {
                most = Math.max(most, load[a]);
            }
            return most;
        }

        private int mostTies() {
            int most = 0;
            for (int a = 0; a < things; a++) {
                most = Math.max(most, Integer.bitCount(tied[a]));
            }
            return most;
        }

        private int fewestTies() {
            int fewest = things == 0 ? 0 : THINGS_MOST;
            for (int a = 0; a < things; a++) {
                fewest = Math.min(fewest, Integer.bitCount(tied[a]));
            }
            return fewest;
        }

        private int groups() {
            int left = everything();
            int n = 0;
            for (int a = 0; a < things; a++) {
                if ((left >> a & 1) != 0) {
                    left &= ~groupOf(a);
                    n++;
                }
            }
            return n;
        }

        private int groupOf(int a) {
            int group = 1 << a;
            // Each round reaches one tie further, and no thing is more than so many ties away.
            for (int round = 0; round < things; round++) {
                int reached = group;
                for (int b = 0; b < things; b++) {
                    if ((group >> b & 1) != 0) {
                        reached |= tied[b];
                    }
                }
                group = reached;
            }
            return group;
        }
    }

    /** Reads a text as a world, into a world of its own. */
    private static final class Reader {
        final World world = new World();
        private Line line = null;
        private int place = 0;

        /** The first place at which it can't go on; NONE: the world stands. */
        int read(Line text) {
            line = text;
            place = 0;
            world.clear(0);
            skipBlanks();
            if (!readHead()) {
                return place;
            }
            // Each item takes a place at least.
            for (int item = 0; item <= TEXT_MOST; item++) {
                skipBlanks();
                if (place >= line.size) {
                    return NONE;
                }
                if (!readItem()) {
                    return place;
                }
            }
            return NONE;
        }

        private int sign() {
            return place < line.size ? line.cells[place] : NONE;
        }

        private void skipBlanks() {
            for (int i = 0; i < TEXT_MOST && sign() == BLANK; i++) {
                place++;
            }
        }

        private boolean isFigure() {
            return sign() >= '0' && sign() <= '9';
        }

        private int takeFigure() {
            int figure = sign() - '0';
            place++;
            return figure;
        }

        /** The letter of a thing here that is unlike two others (NONE: unlike none). */
        private boolean isThingBut(int a, int b) {
            int x = sign() - 'A';
            return world.isThing(x) && x != a && x != b;
        }

        private int takeThing() {
            int x = sign() - 'A';
            place++;
            return x;
        }

        private boolean readHead() {
            if (sign() != 'n') {
                return false;
            }
            place++;
            if (!isFigure()) {
                return false;
            }
            int n = takeFigure();
            if (isFigure()) {
                n = 10 * n + takeFigure();
            }
            if (n < 1 || n > THINGS_MOST) {
                return false;
            }
            world.clear(n);
            return true;
        }

        private boolean readItem() {
            int start = place;
            if (!isThingBut(NONE, NONE)) {
                return false;
            }
            int x = takeThing();
            if (isThingBut(x, NONE)) {
                return readTie(x, takeThing());
            }
            int kind = kindOf(sign());
            if (kind == NOTE) {
                return false;
            }
            if (world.rules == RULES_MOST) {
                place = start;
                return false;
            }
            place++;
            return readRule(kind, x);
        }

        private boolean readTie(int x, int y) {
            if (!isFigure()) {
                return false;
            }
            world.setTie(x, y, takeFigure());
            return true;
        }

        private static int kindOf(int sign) {
            switch (sign) {
                case '<': return AHEAD;
                case '+': return RIGHT;
                case '@': return PLACED;
                case '^': return EARLY;
                case '!': return APART;
                case '?': return BETWEEN;
                default: return NOTE;
            }
        }

        private boolean readRule(int kind, int x) {
            boolean byPlace = kind == PLACED || kind == EARLY;
            if (byPlace ? !isFigure() : !isThingBut(x, NONE)) {
                return false;
            }
            int y = byPlace ? takeFigure() : takeThing();
            int z = 0;
            if (kind == BETWEEN) {
                if (!isThingBut(x, y)) {
                    return false;
                }
                z = takeThing();
            }
            world.addRule(kind, x, y, z);
            return true;
        }
    }

    /** The least orders of a measure, from the first one on; there is one at least. */
    private abstract static class LeastOrders {
        abstract int value();

        abstract int number();

        /** Order k, which is below number(). */
        abstract void pick(int k, int[] into);

        /** How many come ahead of an order; NONE: it is not one of them. */
        abstract int indexOf(int[] wanted);

        /** In how many a thing is at each place. */
        abstract void spreadOf(int a, int[] into);

        abstract int numberAhead(int a, int b);
    }

    /**
     * Finds the least orders of all measures but LONG by which things stand ahead and which is the last of
     * them: what a gap costs, and who may come next, hangs on no more than these.
     */
    private static final class SetSearch extends LeastOrders {
        final World world = new World();
        private final int[] gapCost = new int[SETS];
        private final int[] fitting = new int[SETS];
        private final int[] following = new int[THINGS_MOST + 1];
        /**
         * By states, set * THINGS_MOST + last: the least measure of what is still to come, who may come next in
         * a least order (if one comes to this state), and how many ways there are to go on so.
         */
        private final int[] best = new int[SETS * THINGS_MOST];
        private final int[] leastNext = new int[SETS * THINGS_MOST];
        private final int[] number = new int[SETS * THINGS_MOST];
        /** In how many ways least orders come to a state. */
        private final int[] coming = new int[SETS * THINGS_MOST];
        private final int[] behindCost = new int[THINGS_MOST];
        private final int[] nextCost = new int[(THINGS_MOST + 1) * THINGS_MOST];
        private boolean isWithin = false;
        private boolean adds = false;
        private boolean isFilled = false;
        private int pinnedThing = NONE;
        private int pinnedPlace = NONE;

        /** Among all orders that are allowed; false: there is none. */
        boolean solve(int m) {
            isWithin = false;
            fillFitting();
            fillBest(m);
            return best[0] < NEVER;
        }

        /**
         * Among the least orders that were found last. A state asks for its own leastNext alone, and that ahead of
         * writing it anew: so the same rows hold both, first what was least and then what is.
         */
        void solveWithin(int m) {
            fillLeast();
            isWithin = true;
            fillBest(m);
        }

        private void fillBest(int m) {
            adds = m == SUM || m == PROFILE;
            isFilled = false;
            fillGapCosts(m);
            for (int set = world.everything(); set >= 0; set--) {
                for (int last = 0; last < lastsOf(set); last++) {
                    if (isState(set, last)) {
                        best[stateOf(set, last)] = bestOf(set, last);
                    }
                }
            }
        }

        private static int stateOf(int set, int last) {
            return set * THINGS_MOST + last;
        }

        /** The empty set has one state: as if thing 0 were its last. */
        private int lastsOf(int set) {
            return set == 0 ? 1 : world.things;
        }

        private static boolean isState(int set, int last) {
            return set == 0 || (set >> last & 1) != 0;
        }

        /** Until unpin() only orders that have a thing at a place are allowed. */
        void pin(int a, int p) {
            pinnedThing = a;
            pinnedPlace = p;
        }

        void unpin() {
            pinnedThing = NONE;
            pinnedPlace = NONE;
        }

        private int pinnedOut(int set) {
            if (pinnedThing == NONE) {
                return 0;
            }
            int pinned = 1 << pinnedThing;
            return Integer.bitCount(set) == pinnedPlace ? ~pinned : pinned;
        }

        private void fillGapCosts(int m) {
            gapCost[0] = 0;
            for (int set = 1; set <= world.everything(); set++) {
                if (m == PLAIN) {
                    gapCost[set] = 0;
                } else if (m == HELD || m == PROFILE) {
                    gapCost[set] = world.heldBy(set);
                } else {
                    int others = set & set - 1;
                    int x = Integer.bitCount((set ^ others) - 1);
                    gapCost[set] = gapCost[others] + world.weightAdded(x, others);
                }
            }
        }

        private void fillFitting() {
            for (int set = 0; set <= world.everything(); set++) {
                int barred = set | pinnedOut(set);
                for (int k = 0; k < world.rules; k++) {
                    barred |= world.barredBehind(k, set);
                }
                fitting[set] = world.everything() & ~barred;
            }
            for (int last = 0; last <= THINGS_MOST; last++) {
                int barred = 0;
                for (int k = 0; k < world.rules; k++) {
                    barred |= world.barredNextTo(k, last);
                }
                following[last] = ~barred;
            }
        }

        private int nextOf(int set, int last) {
            if (isWithin) {
                return leastNext[stateOf(set, last)];
            }
            return fitting[set] & following[set == 0 ? THINGS_MOST : last];
        }

        private int bestOf(int set, int last) {
            if (set == world.everything()) {
                return 0;
            }
            int next = nextOf(set, last);
            int least = NEVER;
            for (int x = 0; x < world.things; x++) {
                if ((next >> x & 1) != 0) {
                    least = Math.min(least, best[stateOf(set | 1 << x, x)]);
                }
            }
            if (least >= NEVER) {
                return NEVER;
            }
            return adds ? least + gapCost[set] : Math.max(least, gapCost[set]);
        }

        /** Many calls ask for the value alone: so the orders are looked for when they are first needed. */
        void fillLeast() {
            if (isFilled) {
                return;
            }
            isFilled = true;
            for (int set = world.everything(); set >= 0; set--) {
                for (int last = 0; last < lastsOf(set); last++) {
                    if (isState(set, last)) {
                        fillLeastFrom(set, last);
                    }
                }
            }
        }

        private void fillLeastFrom(int set, int last) {
            int state = stateOf(set, last);
            int next = nextOf(set, last);
            int least = 0;
            int sum = set == world.everything() ? 1 : 0;
            for (int x = 0; x < world.things; x++) {
                if ((next >> x & 1) != 0 && goesOnLeast(set, last, x)) {
                    least |= 1 << x;
                    sum += number[stateOf(set | 1 << x, x)];
                }
            }
            leastNext[state] = least;
            number[state] = sum;
        }

        private boolean goesOnLeast(int set, int last, int x) {
            int rest = best[stateOf(set | 1 << x, x)];
            if (rest >= NEVER) {
                return false;
            }
            return adds ? rest + gapCost[set] == best[stateOf(set, last)] : rest <= best[0];
        }

        /** Those that may come next in a least order that comes to a state; behind fillLeast(). */
        int nextInLeast(int set, int last) {
            return leastNext[stateOf(set, last)];
        }

        int value() {
            return best[0];
        }

        int number() {
            fillLeast();
            return number[0];
        }

        void pick(int k, int[] into) {
            fillLeast();
            int left = k;
            int set = 0;
            int last = 0;
            for (int place = 0; place < world.things; place++) {
                int next = nextInLeast(set, last);
                for (int x = 0; x < world.things; x++) {
                    if ((next >> x & 1) == 0) {
                        continue;
                    }
                    int ways = number[stateOf(set | 1 << x, x)];
                    if (left < ways) {
                        last = x;
                        break;
                    }
                    left -= ways;
                }
                into[place] = last;
                set |= 1 << last;
            }
        }

        int indexOf(int[] wanted) {
            fillLeast();
            int index = 0;
            int set = 0;
            int last = 0;
            for (int place = 0; place < world.things; place++) {
                int next = nextInLeast(set, last);
                int taken = wanted[place];
                if ((next >> taken & 1) == 0) {
                    return NONE;
                }
                for (int x = 0; x < taken; x++) {
                    if ((next >> x & 1) != 0) {
                        index += number[stateOf(set | 1 << x, x)];
                    }
                }
                last = taken;
                set |= 1 << last;
            }
            return index;
        }

        void spreadOf(int a, int[] into) {
            Arrays.fill(into, 0);
            fillComing();
            for (int set = 0; set < world.everything(); set++) {
                into[Integer.bitCount(set)] += numberTaking(a, set);
            }
        }

        int numberAhead(int a, int b) {
            fillComing();
            int sum = 0;
            for (int set = 0; set < world.everything(); set++) {
                if ((set >> a & 1) != 0) {
                    sum += numberTaking(b, set);
                }
            }
            return sum;
        }

        /** In how many least orders a thing comes right behind a set. */
        private int numberTaking(int x, int set) {
            if ((set >> x & 1) != 0) {
                return 0;
            }
            int sum = 0;
            for (int last = 0; last < lastsOf(set); last++) {
                if (isState(set, last) && (nextInLeast(set, last) >> x & 1) != 0) {
                    sum += coming[stateOf(set, last)] * number[stateOf(set | 1 << x, x)];
                }
            }
            return sum;
        }

        private void fillComing() {
            fillLeast();
            Arrays.fill(coming, 0, stateOf(world.everything() + 1, 0), 0);
            coming[0] = 1;
            for (int set = 0; set < world.everything(); set++) {
                for (int last = 0; last < lastsOf(set); last++) {
                    if (isState(set, last) && coming[stateOf(set, last)] > 0) {
                        comeOnFrom(set, last);
                    }
                }
            }
        }

        private void comeOnFrom(int set, int last) {
            int next = nextInLeast(set, last);
            for (int x = 0; x < world.things; x++) {
                if ((next >> x & 1) != 0) {
                    coming[stateOf(set | 1 << x, x)] += coming[stateOf(set, last)];
                }
            }
        }

        /**
         * How many rules an order breaks at least, and which, as number << RULES_MOST | bits. A rule is broken
         * by one thing coming, if at all: so both can be added up. What solve() has found is gone then.
         */
        int leastBroken() {
            fillNextCosts();
            for (int set = world.everything(); set >= 0; set--) {
                fillBehindCosts(set);
                for (int last = 0; last < lastsOf(set); last++) {
                    if (isState(set, last)) {
                        best[stateOf(set, last)] = leastBrokenFrom(set, last);
                    }
                }
            }
            return best[0];
        }

        private static int costOfRule(int k) {
            return 1 << RULES_MOST | 1 << k;
        }

        private void fillNextCosts() {
            Arrays.fill(nextCost, 0);
            for (int last = 0; last <= THINGS_MOST; last++) {
                for (int k = 0; k < world.rules; k++) {
                    addCosts(world.barredNextTo(k, last), costOfRule(k), nextCost, stateOf(last, 0));
                }
            }
        }

        private void fillBehindCosts(int set) {
            Arrays.fill(behindCost, 0);
            for (int k = 0; k < world.rules; k++) {
                addCosts(world.barredBehind(k, set), costOfRule(k), behindCost, 0);
            }
        }

        private void addCosts(int barred, int cost, int[] costs, int from) {
            for (int x = 0; x < world.things; x++) {
                if ((barred >> x & 1) != 0) {
                    costs[from + x] += cost;
                }
            }
        }

        private int leastBrokenFrom(int set, int last) {
            if (set == world.everything()) {
                return 0;
            }
            int from = stateOf(set == 0 ? THINGS_MOST : last, 0);
            int least = NEVER;
            for (int x = 0; x < world.things; x++) {
                if ((set >> x & 1) == 0) {
                    int cost = behindCost[x] + nextCost[from + x];
                    least = Math.min(least, cost + best[stateOf(set | 1 << x, x)]);
                }
            }
            return least;
        }
    }

    /**
     * Finds the orders of the least LONG by walking through those of a search, place by place, and leaving
     * what is longer already; of WALK_MOST things at most.
     */
    private static final class LongWalk extends LeastOrders {
        private static final int BITS = 3;
        final SetSearch search = new SetSearch();
        private final World world = search.world;
        /** Each order is one int, the first thing highest: so they rise. */
        private final int[] orders = new int[WALK_ORDERS];
        private int size = 0;
        private int best = 0;
        int otherLeast = 0;
        int otherNumber = 0;
        private final int[] seats = new int[THINGS_MOST];
        private final int[] unpacked = new int[THINGS_MOST];

        /** The search has found some order, and its least ones are filled. */
        void go() {
            size = 0;
            best = NEVER;
            step(0, 0, 0, 0, 0);
        }

        private void step(int place, int set, int last, int reach, int packed) {
            if (place >= world.things || place >= WALK_MOST) {
                keep(reach, packed);
                return;
            }
            int next = search.nextInLeast(set, last);
            for (int x = 0; x < world.things; x++) {
                if ((next >> x & 1) == 0) {
                    continue;
                }
                seats[x] = place;
                int longer = Math.max(reach, reachAtLeast(set | 1 << x, place));
                if (longer <= best) {
                    step(place + 1, set | 1 << x, x, longer, packed << BITS | x);
                }
            }
        }

        private void keep(int reach, int packed) {
            if (reach < best) {
                best = reach;
                size = 0;
            }
            if (reach == best && size < WALK_ORDERS) {
                orders[size] = packed;
                size++;
            }
        }

        /**
         * How long a tie across the gap behind a place gets at least: the farthest of k that a thing still
         * waits for is k places behind it. A tie with both ends ahead was across an earlier gap.
         */
        private int reachAtLeast(int set, int place) {
            int reach = 0;
            for (int y = 0; y < world.things; y++) {
                int waiting = world.tied[y] & ~set;
                if ((set >> y & 1) != 0 && waiting != 0) {
                    reach = Math.max(reach, place + Integer.bitCount(waiting) - seats[y]);
                }
            }
            return reach;
        }

        private void unpack(int k) {
            int packed = orders[k];
            for (int place = world.things - 1; place >= 0; place--) {
                unpacked[place] = packed & (1 << BITS) - 1;
                packed >>= BITS;
            }
        }

        int value() {
            return best;
        }

        int number() {
            return size;
        }

        void pick(int k, int[] into) {
            unpack(k);
            System.arraycopy(unpacked, 0, into, 0, world.things);
        }

        int indexOf(int[] wanted) {
            int packed = 0;
            for (int place = 0; place < world.things; place++) {
                packed = packed << BITS | wanted[place];
            }
            for (int k = 0; k < size; k++) {
                if (orders[k] == packed) {
                    return k;
                }
            }
            return NONE;
        }

        void spreadOf(int a, int[] into) {
            Arrays.fill(into, 0);
            for (int k = 0; k < size; k++) {
                unpack(k);
                world.seatsOf(unpacked, seats);
                into[seats[a]]++;
            }
        }

        int numberAhead(int a, int b) {
            int n = 0;
            for (int k = 0; k < size; k++) {
                unpack(k);
                world.seatsOf(unpacked, seats);
                if (seats[a] < seats[b]) {
                    n++;
                }
            }
            return n;
        }

        /** Finds the least of another measure among these orders. */
        void compare(int l) {
            otherLeast = NEVER;
            otherNumber = 0;
            for (int k = 0; k < size; k++) {
                unpack(k);
                int other = world.measured(l, unpacked);
                if (other < otherLeast) {
                    otherLeast = other;
                    otherNumber = 0;
                }
                if (other == otherLeast) {
                    otherNumber++;
                }
            }
        }
    }
}
