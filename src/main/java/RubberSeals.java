/**
 * Rubber seals in four places under one lid: the stuffs they are made of, where the lid comes to
 * rest on them, what opens and leaks, what ageing, swelling and stretching do to that, and which
 * stuffs, causes and places fit what was seen. README.md tells how it is used.
 */
public final class RubberSeals {
    public static final int BAD = -1, FULL = -2, FINDING = -3, STATE = -4, SPENT = -6, NONE = -9;

    private static final int NOTHING = 1, BEYOND = 2, UNLIKE = 3, NOUGHT = 4, SIZE = 5;
    private static final int PART = 0, PIECE = 1, RING = 2, LIP = 3, BACKED = 4;
    private static final int LID_PUSH = 0, DEGREES = 1, PRESSURE = 2, GAP = 3;
    private static final int SET_CAUSE = 0, COLD_CAUSE = 1, PRESSURE_CAUSE = 2, STRETCH_CAUSE = 3;

    private static final int ROWS = 6, ROW_MOST = 40;
    private static final int TEXTS = 4, TEXT_MOST = 60, BLANK = 32;
    private static final int STUFFS = 6, POINTS_MOST = 4, X_MOST = 20;
    private static final int PLACES = 4;

    /** Divided by each of 1 to 20, so that every push at a whole squeeze is a whole number of these parts. */
    private static final long SCALE = 232792560L;

    /** Above every push and every sum of prices. */
    private static final int UNREACHED = 1000000000;

    private static final int[] SETTING_LEAST = {0, -99, 0, 0};
    private static final int[] SETTING_MOST = {99999, 99, 9999, 99};

    private final Row[] rows = new Row[ROWS];
    private final Row[] texts = new Row[TEXTS];
    private final Stuff[] stuffs = new Stuff[STUFFS];
    private final Seal[] seals = new Seal[PLACES];
    private final int[] depths = new int[PLACES];
    private final int[] settings = new int[SETTING_MOST.length];
    private final Reader reader = new Reader();
    private final Trial trial = new Trial();
    private final int[] members = new int[STUFFS];
    private final int[] findingCounts = new int[SIZE + 1];
    private int latestFinding = 0;
    private int latestAsked = 0;
    private long toldUpper = 0;
    private long toldLower = 1;

    public RubberSeals() {
        for (int r = 0; r < ROWS; r++) rows[r] = new Row(ROW_MOST);
        for (int t = 0; t < TEXTS; t++) texts[t] = new Row(TEXT_MOST);
        for (int s = 0; s < STUFFS; s++) stuffs[s] = new Stuff();
        for (int p = 0; p < PLACES; p++) seals[p] = new Seal();
        settings[DEGREES] = 20;
    }

    // ---- 1 rows, texts, stuffs

    public int row(int r, int n) {
        if (!isRow(r) || n > ROW_MOST) return BAD;
        if (n < 0) return found(SIZE);
        rows[r].make(n, 0);
        return n;
    }

    public int lay(int r, int i, int v) {
        if (!isRow(r)) return BAD;
        Row of = rows[r];
        if (of.isMissing()) return found(NOTHING);
        if (!of.has(i)) return found(BEYOND);
        latestAsked = of.cells[i];
        of.cells[i] = v;
        return 1;
    }

    public int tear(int r) {
        if (!isRow(r)) return BAD;
        if (rows[r].isMissing()) return found(NOTHING);
        rows[r].size = -1;
        return 1;
    }

    public int copy(int r, int i, int to, int j, int n) {
        if (!isRow(r) || !isRow(to)) return BAD;
        if (n < 0) return found(SIZE);
        Row from = rows[r];
        Row into = rows[to];
        if (from.isMissing() || into.isMissing()) return found(NOTHING);
        if (!from.hasRun(i, n) || !into.hasRun(j, n)) return found(BEYOND);
        System.arraycopy(from.cells, i, into.cells, j, n);
        return 1;
    }

    public int mean(int r) {
        if (!isRow(r)) return BAD;
        Row of = rows[r];
        if (of.isMissing()) return found(NOTHING);
        if (of.size == 0) return found(NOUGHT);
        long sum = 0;
        for (int i = 0; i < of.size; i++) sum += of.cells[i];
        latestAsked = (int) (sum / of.size);
        return 1;
    }

    public int text(int t, int n) {
        if (!isText(t) || n > TEXT_MOST) return BAD;
        if (n < 0) return found(SIZE);
        texts[t].make(n, BLANK);
        return n;
    }

    public int put(int t, int i, int v) {
        if (!isText(t)) return BAD;
        Row of = texts[t];
        if (of.isMissing()) return found(NOTHING);
        if (!of.has(i)) return found(BEYOND);
        int was = of.cells[i];
        of.cells[i] = (byte) v;
        return was + 1000;
    }

    public int fault(int t) {
        if (!isText(t)) return BAD;
        if (texts[t].isMissing()) return found(NOTHING);
        return reader.read(texts[t]);
    }

    public int stuff(int s, int t) {
        if (!isStuff(s) || !isText(t)) return BAD;
        if (texts[t].isMissing()) return found(NOTHING);
        if (reader.read(texts[t]) != NONE) return STATE;
        stuffs[s].become(reader.draft);
        return stuffs[s].points;
    }

    public int about(int s, int what) {
        if (!isStuff(s) || !within(what, 0, 4)) return BAD;
        if (stuffs[s].isMissing()) return found(NOTHING);
        latestAsked = stuffs[s].tells(what);
        return 1;
    }

    public int push(int s, int u) {
        if (!isStuff(s) || !within(u, 0, 99)) return BAD;
        if (stuffs[s].isMissing()) return found(NOTHING);
        tell(stuffs[s].scaledPush(u), SCALE);
        return 1;
    }

    // ---- 2 seals, the lid

    public int seal(int p, int kind, int stuff, int height, int area) {
        if (!isPlace(p) || !within(kind, PART, BACKED)) return BAD;
        if (!within(height, 50, 400) || !within(area, 1, 9)) return BAD;
        if (kind != PART && !isStuff(stuff)) return BAD;
        if (kind != PART && stuffs[stuff].isMissing()) return found(NOTHING);
        seals[p].become(kind, kind == PART ? 0 : stuff, height, area);
        return 1;
    }

    public int take(int p) {
        if (!isPlace(p)) return BAD;
        if (seals[p].isMissing()) return found(NOTHING);
        seals[p].kind = -1;
        return 1;
    }

    public int depth(int p, int d) {
        if (!isPlace(p) || !within(d, 0, 200)) return BAD;
        int was = depths[p];
        depths[p] = d;
        return was;
    }

    public int stretch(int p, int v) {
        if (!isPlace(p) || !within(v, 0, 40)) return BAD;
        int missed = missed(p, RING);
        if (missed != 0) return found(missed);
        seals[p].stretched = v;
        seals[p].free = seals[p].stretchedHeight();
        return seals[p].free;
    }

    public int told(int p, int what) {
        if (!isPlace(p) || !within(what, 0, 4)) return BAD;
        if (seals[p].isMissing()) return found(NOTHING);
        latestAsked = what == 4 ? depths[p] : seals[p].tells(what);
        return 1;
    }

    public int mark(int p, int kind) {
        if (!isPlace(p) || !within(kind, PIECE, BACKED)) return BAD;
        int missed = missed(p, kind);
        if (missed != 0) return found(missed);
        return seals[p].tellsAs(kind);
    }

    public int let(int what, int v) {
        if (!within(what, LID_PUSH, GAP)) return BAD;
        if (!within(v, SETTING_LEAST[what], SETTING_MOST[what])) return BAD;
        int was = settings[what];
        settings[what] = v;
        return was;
    }

    public int rest() {
        if (countOfKind(PART) == 0) return STATE;
        settleAsIs();
        tell(trial.up, trial.down);
        if (trial.touchesPart()) return 1;
        return trial.up == 0 ? 2 : 0;
    }

    public int press(int p) {
        if (!isPlace(p)) return BAD;
        int missed = missed(p, PIECE);
        if (missed != 0) return found(missed);
        settleAsIs();
        tell(trial.pressUp[p], trial.pressDown(p));
        return trial.isOpen(p) ? 1 : 0;
    }

    // ---- 3 leaks, ages

    public int opens() {
        settleAsIs();
        return trial.openPlaces();
    }

    public int weakest() {
        settleAsIs();
        int least = -1;
        for (int p = 0; p < PLACES; p++) {
            if (trial.rubber[p] && (least < 0 || trial.pressesLess(p, least))) least = p;
        }
        if (least < 0) return NONE;
        latestAsked = trial.cutPress(least);
        return least;
    }

    public int leak() {
        settleAsIs();
        int sum = 0;
        for (int p = 0; p < PLACES; p++) {
            if (trial.isOpen(p)) sum += trial.leakAt(p);
        }
        return sum;
    }

    public int through(int p) {
        if (!isPlace(p)) return BAD;
        int missed = missed(p, PIECE);
        if (missed != 0) return found(missed);
        settleAsIs();
        Seal of = seals[p];
        // The height is counted in parts of trial.down, as the lid's own height is.
        long height = trial.squeezed(p) > 0
            ? trial.up + depths[p] * trial.down
            : of.free * trial.down;
        if (height <= 0) return found(NOUGHT);
        long gas = (long) stuffOf(of).gas * settings[PRESSURE] * of.area;
        tell(gas * trial.down, height);
        return 1;
    }

    public int age(int t) {
        if (!within(t, 1, 9)) return BAD;
        settleAsIs();
        int less = 0;
        for (int p = 0; p < PLACES; p++) {
            if (!trial.rubber[p]) continue;
            int share = Math.min(100, stuffOf(seals[p]).set * t);
            int loss = (int) cut(trial.squeezed(p) * share, 100 * trial.down);
            seals[p].free -= loss;
            if (loss > 0) less++;
        }
        return less;
    }

    public int swell() {
        int sum = 0;
        for (int p = 0; p < PLACES; p++) {
            Seal of = seals[p];
            if (!of.is(PIECE)) continue;
            int swollen = Math.min(800, of.free + of.free * stuffOf(of).swelling / 1000);
            sum += swollen - of.free;
            of.free = swollen;
        }
        return sum;
    }

    public int renew(int p) {
        if (!isPlace(p)) return BAD;
        Seal of = seals[p];
        if (of.isMissing()) return found(NOTHING);
        latestAsked = of.height - of.free;
        of.free = of.height;
        of.stretched = 0;
        return 1;
    }

    public int blown(int p) {
        if (!isPlace(p)) return BAD;
        int missed = missed(p, PIECE);
        if (missed != 0) return found(missed);
        Seal of = seals[p];
        if (of.is(BACKED)) {
            of.asks++;
            return 0;
        }
        long drive = (long) settings[PRESSURE] * settings[GAP] * SCALE;
        return drive > 100 * stuffOf(of).scaledPush(10) ? 1 : 0;
    }

    public int ends(int p, int a, int f) {
        if (!isPlace(p) || !areEnds(a, f)) return BAD;
        int missed = missed(p, PIECE);
        if (missed != 0) return found(missed);
        int least = UNREACHED;
        int greatest = 0;
        for (int way = 0; way < 2 << PLACES; way++) {
            settleAtEnd(way, a, f);
            int press = trial.cutPress(p);
            least = Math.min(least, press);
            greatest = Math.max(greatest, press);
        }
        latestAsked = greatest;
        return least;
    }

    public int sure(int a, int f) {
        if (!areEnds(a, f)) return BAD;
        boolean everOpen = false;
        boolean everShut = false;
        for (int way = 0; way < 2 << PLACES; way++) {
            settleAtEnd(way, a, f);
            if (trial.openPlaces() == 0) everShut = true;
            else everOpen = true;
        }
        if (!everOpen) return 2;
        return everShut ? 1 : 0;
    }

    public int follows(int p, int turns, int wobble) {
        if (!isPlace(p) || !within(turns, 1, 9999) || !within(wobble, 1, 20)) return BAD;
        int missed = missed(p, LIP);
        if (missed != 0) return found(missed);
        Seal of = seals[p];
        of.asks++;
        long bound = 10 * stuffOf(of).scaledPush(wobble) / SCALE;
        long way = (long) turns * wobble;
        if (2 * way <= bound) return 2;
        return way > bound ? 0 : 1;
    }

    // ---- 4 strips, batches, causes, choices

    public int strip(int r, int k) {
        if (!isRow(r) || !within(k, 0, 99)) return BAD;
        Row of = rows[r];
        if (of.isMissing()) return found(NOTHING);
        if (of.size == 0 || of.size % 2 != 0) return found(SIZE);
        for (int i = 0; i + 1 < of.size; i += 2) {
            if (!within(of.cells[i], 0, 20) || !within(of.cells[i + 1], 0, 9999)) return found(UNLIKE);
        }
        int kept = 0;
        for (int s = 0; s < STUFFS; s++) {
            if (!stuffs[s].isMissing() && stuffs[s].fits(of, k)) kept |= 1 << s;
        }
        return kept;
    }

    public int parting(int set) {
        if (!isSet(set) || Integer.bitCount(set) < 2) return BAD;
        if (lacksOneOf(set)) return found(NOTHING);
        int best = 1;
        long farthest = -1;
        for (int u = 1; u <= X_MOST; u++) {
            long apart = spread(set, u);
            if (apart > farthest) {
                farthest = apart;
                best = u;
            }
        }
        latestAsked = (int) (farthest / SCALE);
        return best;
    }

    public int batch(int n, int b, int m, int a) {
        if (!within(n, 1, 40) || !within(b, 0, n)) return BAD;
        if (!within(m, 1, Math.min(10, n)) || !within(a, 0, m)) return BAD;
        long good = 0;
        for (int i = 0; i <= a; i++) good += picks(b, i) * picks(n - b, m - i);
        tell(good, picks(n, m));
        return 1;
    }

    public int led() {
        settleAsIs();
        if (trial.openPlaces() == 0) return STATE;
        int causes = 0;
        for (int cause = SET_CAUSE; cause <= STRETCH_CAUSE; cause++) {
            layOut();
            remove(cause);
            trial.settle();
            if (trial.openPlaces() == 0) causes |= 1 << cause;
        }
        return causes;
    }

    public int choose(int set, int prices, int turns) {
        if (!isSet(set) || set == 0 || !isRow(prices) || !within(turns, 0, 1296)) return BAD;
        Row of = rows[prices];
        if (lacksOneOf(set) || of.isMissing()) return found(NOTHING);
        if (of.size != STUFFS) return found(SIZE);
        for (int s = 0; s < STUFFS; s++) {
            if (!within(of.cells[s], 0, 999)) return found(UNLIKE);
        }
        int size = listMembers(set);
        int ways = 1;
        for (int i = countOfKind(PIECE); i > 0; i--) ways *= size;
        if (ways > turns) return SPENT;
        return cheapest(ways, size, of);
    }

    public int sniff(int r, int k) {
        if (!isRow(r) || !within(k, 0, 99)) return BAD;
        Row of = rows[r];
        if (of.isMissing()) return found(NOTHING);
        if (of.size != PLACES) return found(SIZE);
        for (int i = 0; i < PLACES; i++) {
            if (!within(of.cells[i], 0, 9999)) return found(UNLIKE);
        }
        int places = 0;
        for (int p = 0; p < PLACES; p++) {
            if (couldLeakAt(p, of, k)) places |= 1 << p;
        }
        return places;
    }

    // ---- 5 what is told

    public int asked() {
        return latestAsked;
    }

    public long upper() {
        return toldUpper;
    }

    public long lower() {
        return toldLower;
    }

    public int count(int what) {
        switch (what) {
            case 0: return countOfKind(PART);
            case 1: return countOfKind(PIECE);
            case 2: return countOfKind(RING);
            case 3: return countOfStuffs();
            case 4: return countOfRows(rows);
            case 5: return countOfRows(texts);
            default: return BAD;
        }
    }

    public int finding() {
        return latestFinding;
    }

    public int findings(int f) {
        return within(f, NOTHING, SIZE) ? findingCounts[f] : BAD;
    }

    public long digest() {
        long h = 17;
        for (int what = 0; what <= 5; what++) h = mix(h, count(what));
        for (int what = LID_PUSH; what <= GAP; what++) h = mix(h, settings[what]);
        for (int p = 0; p < PLACES; p++) h = seals[p].mixInto(mix(h, depths[p]));
        for (int s = 0; s < STUFFS; s++) h = stuffs[s].mixInto(h);
        for (int r = 0; r < ROWS; r++) h = rows[r].mixInto(h);
        for (int t = 0; t < TEXTS; t++) h = texts[t].mixInto(h);
        return h;
    }

    // ---- what is refused, what is told

    private static boolean within(int v, int least, int most) {
        return v >= least && v <= most;
    }

    private static boolean isRow(int r) {
        return within(r, 0, ROWS - 1);
    }

    private static boolean isText(int t) {
        return within(t, 0, TEXTS - 1);
    }

    private static boolean isStuff(int s) {
        return within(s, 0, STUFFS - 1);
    }

    private static boolean isPlace(int p) {
        return within(p, 0, PLACES - 1);
    }

    private static boolean isSet(int set) {
        return within(set, 0, (1 << STUFFS) - 1);
    }

    private static boolean areEnds(int a, int f) {
        return within(a, 0, 20) && within(f, 0, 999);
    }

    private int found(int f) {
        if (within(f, NOTHING, SIZE)) {
            latestFinding = f;
            findingCounts[f]++;
        }
        return FINDING;
    }

    /** The finding against a place from which a seal of this kind is wanted; 0: there is one. */
    private int missed(int p, int kind) {
        if (!isPlace(p) || seals[p].isMissing()) return NOTHING;
        return seals[p].is(kind) ? 0 : UNLIKE;
    }

    private boolean lacksOneOf(int set) {
        for (int s = 0; s < STUFFS; s++) {
            if (holds(set, s) && stuffs[s].isMissing()) return true;
        }
        return false;
    }

    private static boolean holds(int set, int member) {
        return (set >> member & 1) != 0;
    }

    private void tell(long up, long down) {
        long by = Math.max(1, commonDivisor(up, down));
        toldUpper = up / by;
        toldLower = down / by;
    }

    private int countOfKind(int kind) {
        int sum = 0;
        for (int p = 0; p < PLACES; p++) {
            if (seals[p].is(kind)) sum++;
        }
        return sum;
    }

    private int countOfStuffs() {
        int sum = 0;
        for (int s = 0; s < STUFFS; s++) {
            if (!stuffs[s].isMissing()) sum++;
        }
        return sum;
    }

    private static int countOfRows(Row[] of) {
        int sum = 0;
        for (int i = 0; i < of.length; i++) {
            if (!of[i].isMissing()) sum++;
        }
        return sum;
    }

    // ---- numbers

    private static long mix(long h, long v) {
        return 31 * h + v;
    }

    private static long cut(long up, long down) {
        return down < 1 ? 0 : up / down;
    }

    /** Of two numbers that are not below 0. A long's figures run out within a hundred steps. */
    private static long commonDivisor(long a, long b) {
        long greater = a;
        long smaller = b;
        for (int i = 0; i < 200 && smaller != 0; i++) {
            long left = greater % smaller;
            greater = smaller;
            smaller = left;
        }
        return greater;
    }

    /** In how many ways k can be picked of n. */
    private static long picks(int n, int k) {
        if (k < 0 || k > n) return 0;
        long ways = 1;
        for (int i = 0; i < k; i++) ways = ways * (n - i) / (i + 1);
        return ways;
    }

    // ---- the lid on its seals, as they are or as they would be

    private Stuff stuffOf(Seal of) {
        return stuffs[isStuff(of.stuff) ? of.stuff : 0];
    }

    private void layOut() {
        for (int p = 0; p < PLACES; p++) {
            Seal of = seals[p];
            trial.layDown(p, of, depths[p], stuffOf(of));
        }
        trial.lidPush = settings[LID_PUSH];
        trial.degrees = settings[DEGREES];
        trial.pressure = settings[PRESSURE];
    }

    private void settleAsIs() {
        layOut();
        trial.settle();
    }

    /** The bits of way tell which seals are higher; the bit behind them, whether the lid pushes more. */
    private void settleAtEnd(int way, int a, int f) {
        layOut();
        for (int p = 0; p < PLACES; p++) {
            if (trial.rubber[p]) trial.tops[p] += holds(way, p) ? a : -a;
        }
        trial.lidPush = Math.max(0, trial.lidPush + (holds(way, PLACES) ? f : -f));
        trial.settle();
    }

    private void remove(int cause) {
        if (cause == COLD_CAUSE) {
            trial.degrees = 20;
        } else if (cause == PRESSURE_CAUSE) {
            trial.pressure /= 2;
        } else {
            for (int p = 0; p < PLACES; p++) {
                if (trial.rubber[p]) trial.tops[p] += lostBy(cause, seals[p]);
            }
        }
    }

    private static int lostBy(int cause, Seal of) {
        if (cause == SET_CAUSE) return Math.max(0, of.stretchedHeight() - of.free);
        return of.height - of.stretchedHeight();
    }

    // ---- choices

    private long spread(int set, int u) {
        long least = UNREACHED * SCALE;
        long greatest = 0;
        for (int s = 0; s < STUFFS; s++) {
            if (!holds(set, s)) continue;
            long push = stuffs[s].scaledPush(u);
            least = Math.min(least, push);
            greatest = Math.max(greatest, push);
        }
        return greatest - least;
    }

    private int listMembers(int set) {
        int size = 0;
        for (int s = 0; s < STUFFS; s++) {
            if (holds(set, s)) members[size++] = s;
        }
        return size;
    }

    private int cheapest(int ways, int size, Row prices) {
        layOut();
        int least = UNREACHED;
        int chosen = 0;
        for (int way = 0; way < ways; way++) {
            int told = dealOut(way, size);
            int price = priceOf(told, prices);
            // A way that is not cheaper comes behind the one that is kept, so it need not be tried.
            if (price >= least) continue;
            trial.settle();
            if (trial.openPlaces() == 0) {
                least = price;
                chosen = told;
            }
        }
        if (least == UNREACHED) return NONE;
        latestAsked = chosen;
        return least;
    }

    /** Gives each rubber seal its stuff of this way, place 0 changing slowest, and tells them by tens. */
    private int dealOut(int way, int size) {
        int told = 0;
        int left = way;
        for (int p = PLACES - 1; p >= 0; p--) {
            told *= 10;
            if (!trial.rubber[p] || size < 1) continue;
            int s = members[left % size];
            left /= size;
            trial.stuffs[p] = stuffs[s];
            told += s + 1;
        }
        return told;
    }

    private int priceOf(int told, Row prices) {
        int sum = 0;
        int left = told;
        for (int p = 0; p < PLACES; p++) {
            int s = left % 10 - 1;
            if (prices.has(s)) sum += prices.cells[s] * seals[p].area;
            left /= 10;
        }
        return sum;
    }

    private static boolean couldLeakAt(int p, Row sniffs, int k) {
        for (int q = 1; q <= 999; q++) {
            if (sniffsFit(q, p, sniffs, k)) return true;
        }
        return false;
    }

    private static boolean sniffsFit(int q, int p, Row sniffs, int k) {
        for (int i = 0; i < PLACES && sniffs.has(i); i++) {
            int due = q / (Math.abs(i - p) + 1);
            if (Math.abs(due - sniffs.cells[i]) > k) return false;
        }
        return true;
    }

    /** A row of ints, or a text, whose bytes are held as ints. */
    private static final class Row {
        final int[] cells;
        /** Below 0: missing. */
        int size = -1;

        Row(int most) {
            cells = new int[Math.max(0, most)];
        }

        boolean isMissing() {
            return size < 0;
        }

        boolean has(int i) {
            return i >= 0 && i < size;
        }

        boolean hasRun(int i, int n) {
            return i >= 0 && n >= 0 && (long) i + n <= size;
        }

        void make(int n, int with) {
            size = Math.min(n, cells.length);
            for (int i = 0; i < size; i++) cells[i] = with;
        }

        long mixInto(long h) {
            long mixed = mix(h, size);
            for (int i = 0; i < size; i++) mixed = mix(mixed, cells[i]);
            return mixed;
        }
    }

    /** A stuff: its pushes rise along pieces; piece k goes from point k to point k + 1, point 0 being (0, 0). */
    private static final class Stuff {
        final int[] xs = new int[POINTS_MOST + 1];
        final int[] ys = new int[POINTS_MOST + 1];
        /** Points behind (0, 0); none: the stuff is missing. */
        int points = 0;
        int set = 0;
        int cold = -99;
        int swelling = 0;
        int gas = 0;

        boolean isMissing() {
            return points == 0;
        }

        void clear() {
            points = 0;
            set = 0;
            cold = -99;
            swelling = 0;
            gas = 0;
        }

        void become(Stuff other) {
            for (int i = 0; i <= POINTS_MOST; i++) {
                xs[i] = other.xs[i];
                ys[i] = other.ys[i];
            }
            points = other.points;
            set = other.set;
            cold = other.cold;
            swelling = other.swelling;
            gas = other.gas;
        }

        boolean isFull() {
            return points >= POINTS_MOST;
        }

        void add(int x, int y) {
            if (isFull()) return;
            points++;
            xs[points] = x;
            ys[points] = y;
        }

        int tells(int what) {
            switch (what) {
                case 0: return points;
                case 1: return set;
                case 2: return cold;
                case 3: return swelling;
                default: return gas;
            }
        }

        /** The piece for a squeeze, cut: pieces part at whole squeezes alone, so the cut is enough. */
        int pieceAt(long u) {
            for (int k = points - 1; k > 0; k--) {
                if (xs[k] <= u) return k;
            }
            return 0;
        }

        int width(int k) {
            return k < 0 || k >= POINTS_MOST ? 1 : Math.max(1, xs[k + 1] - xs[k]);
        }

        int rise(int k) {
            return k < 0 || k >= POINTS_MOST ? 0 : ys[k + 1] - ys[k];
        }

        /** The push at a whole squeeze, in parts of SCALE. */
        long scaledPush(int u) {
            int k = pieceAt(u);
            return ys[k] * SCALE + (u - xs[k]) * (rise(k) * (SCALE / width(k)));
        }

        boolean fits(Row pairs, int k) {
            for (int i = 0; i + 1 < pairs.size; i += 2) {
                long off = scaledPush(pairs.cells[i]) - pairs.cells[i + 1] * SCALE;
                if (Math.abs(off) > k * SCALE) return false;
            }
            return true;
        }

        long mixInto(long h) {
            if (isMissing()) return mix(h, -1);
            long mixed = h;
            for (int what = 0; what <= 4; what++) mixed = mix(mixed, tells(what));
            for (int i = 1; i <= points; i++) mixed = mix(mix(mixed, xs[i]), ys[i]);
            return mixed;
        }
    }

    /** Reads a text into a draft of a stuff, up to the place at which it can't go on. */
    private static final class Reader {
        final Stuff draft = new Stuff();
        private Row signs = new Row(0);
        private int at = 0;

        /** The fault, or NONE. */
        int read(Row from) {
            draft.clear();
            signs = from;
            at = 0;
            for (int i = 0; i <= TEXT_MOST && at < signs.size; i++) {
                if (here() == BLANK) at++;
                else if (!readItem(here())) return at;
            }
            return draft.isMissing() ? signs.size : NONE;
        }

        private int here() {
            return signs.has(at) ? signs.cells[at] : 0;
        }

        private boolean readItem(int letter) {
            switch (letter) {
                case 'P': return readPair();
                case 'C': return readCold();
                case 'T': case 'W': case 'G': return readPlain(letter);
                default: return false;
            }
        }

        private boolean readPair() {
            if (draft.isFull()) return false;
            at++;
            int x = number(2);
            if (x > X_MOST || x <= draft.xs[draft.points]) return false;
            if (here() != ':') return false;
            at++;
            int y = number(3);
            if (y <= draft.ys[draft.points]) return false;
            draft.add(x, y);
            return true;
        }

        private boolean readCold() {
            at++;
            boolean below = here() == '-';
            if (below) at++;
            int n = number(2);
            if (n < 0) return false;
            draft.cold = below ? -n : n;
            return true;
        }

        private boolean readPlain(int letter) {
            at++;
            int n = number(2);
            if (n < 0) return false;
            if (letter == 'T') draft.set = n;
            else if (letter == 'W') draft.swelling = n;
            else draft.gas = n;
            return true;
        }

        /** Of so many figures at most; -1: there is none. */
        private int number(int figures) {
            int n = -1;
            for (int i = 0; i < figures && here() >= '0' && here() <= '9'; i++) {
                n = Math.max(n, 0) * 10 + here() - '0';
                at++;
            }
            return n;
        }
    }

    private static final class Seal {
        /** Below 0: missing. */
        int kind = -1;
        int stuff = 0;
        int height = 0;
        int free = 0;
        int area = 0;
        int stretched = 0;
        /** How often a lip was asked whether it follows, a backed one whether it is blown. */
        int asks = 0;

        boolean isMissing() {
            return kind < 0;
        }

        boolean is(int wanted) {
            if (wanted == LIP || wanted == BACKED) return kind == wanted;
            return kind >= wanted;
        }

        void become(int newKind, int newStuff, int newHeight, int newArea) {
            kind = newKind;
            stuff = newStuff;
            height = newHeight;
            free = newHeight;
            area = newArea;
            stretched = 0;
            asks = 0;
        }

        int stretchedHeight() {
            return height * (200 - stretched) / 200;
        }

        int tells(int what) {
            switch (what) {
                case 0: return kind;
                case 1: return free;
                case 2: return height;
                default: return area;
            }
        }

        int tellsAs(int wanted) {
            if (wanted == PIECE) return stuff;
            return wanted == RING ? stretched : asks;
        }

        long mixInto(long h) {
            if (isMissing()) return mix(h, -1);
            long mixed = h;
            for (int what = 0; what <= 3; what++) mixed = mix(mixed, tells(what));
            mixed = mix(mixed, is(PIECE) ? stuff : -1);
            return mix(mixed, is(RING) ? stretched : -1);
        }
    }

    /**
     * The lid on seals as laid out: what was laid out may be changed before it settles. The lid's
     * height is up by down; a seal's press is pressUp by its width times down, so that two of them
     * are told apart by their widths alone.
     */
    private static final class Trial {
        final boolean[] hard = new boolean[PLACES];
        final boolean[] rubber = new boolean[PLACES];
        final int[] tops = new int[PLACES];
        final int[] areas = new int[PLACES];
        final Stuff[] stuffs = new Stuff[PLACES];
        int lidPush = 0;
        int degrees = 0;
        int pressure = 0;
        long up = 0;
        long down = 1;
        final long[] pressUp = new long[PLACES];
        final int[] widths = new int[PLACES];

        void layDown(int p, Seal of, int deep, Stuff made) {
            if (!isPlace(p)) return;
            rubber[p] = of.is(PIECE);
            hard[p] = !of.isMissing() && !rubber[p];
            tops[p] = of.free - deep;
            areas[p] = of.area;
            stuffs[p] = made;
        }

        /**
         * All pushes bend at whole heights alone: between the two whole heights that have the lid's
         * push between them, they rise along one line. With a push of 0 that ends at the highest top.
         */
        void settle() {
            int low = floorHeight();
            int high = highestTop(low);
            long due = lidPush * SCALE;
            up = low;
            down = 1;
            long lowPush = pushAt(low);
            if (lowPush > due) {
                // Fewer than 2^20 heights lie between a floor and the highest top.
                for (int i = 0; i < 20 && high - low > 1; i++) {
                    int middle = (low + high) / 2;
                    long middlePush = pushAt(middle);
                    if (middlePush > due) {
                        low = middle;
                        lowPush = middlePush;
                    } else {
                        high = middle;
                    }
                }
                restBetween(high, lowPush, pushAt(high), due);
            }
            for (int p = 0; p < PLACES; p++) findPress(p);
        }

        private void restBetween(int high, long lowPush, long highPush, long due) {
            long rise = lowPush - highPush;
            if (rise < 1) return;
            long parts = high * rise - (due - highPush);
            long by = Math.max(1, commonDivisor(parts, rise));
            up = parts / by;
            down = rise / by;
        }

        private int floorHeight() {
            int floor = 0;
            for (int p = 0; p < PLACES; p++) {
                if (hard[p]) floor = Math.max(floor, tops[p]);
            }
            return floor;
        }

        private int highestTop(int floor) {
            int highest = floor;
            for (int p = 0; p < PLACES; p++) {
                if (rubber[p]) highest = Math.max(highest, tops[p]);
            }
            return highest;
        }

        /** What all rubber pushes against a lid at a whole height, in parts of SCALE. */
        private long pushAt(int height) {
            long sum = 0;
            for (int p = 0; p < PLACES; p++) {
                if (!rubber[p] || tops[p] <= height) continue;
                sum += areas[p] * stiffness(p) * stuffs[p].scaledPush(tops[p] - height);
            }
            return sum;
        }

        private long stiffness(int p) {
            return degrees < stuffs[p].cold ? 3 : 1;
        }

        /** How far a seal is squeezed, in parts of down. */
        long squeezed(int p) {
            return Math.max(0, tops[p] * down - up);
        }

        private void findPress(int p) {
            pressUp[p] = 0;
            widths[p] = 1;
            long squeezed = squeezed(p);
            if (!rubber[p] || squeezed == 0) return;
            Stuff of = stuffs[p];
            int k = of.pieceAt(cut(squeezed, down));
            int width = of.width(k);
            long ahead = of.ys[k] * width * down;
            long along = (squeezed - of.xs[k] * down) * of.rise(k);
            pressUp[p] = stiffness(p) * (ahead + along);
            widths[p] = width;
        }

        long pressDown(int p) {
            return widths[p] * down;
        }

        int cutPress(int p) {
            return (int) cut(pressUp[p], pressDown(p));
        }

        boolean pressesLess(int p, int other) {
            return pressUp[p] * widths[other] < pressUp[other] * widths[p];
        }

        boolean isOpen(int p) {
            return rubber[p] && pressUp[p] < pressure * pressDown(p);
        }

        int openPlaces() {
            int open = 0;
            for (int p = 0; p < PLACES; p++) {
                if (isOpen(p)) open |= 1 << p;
            }
            return open;
        }

        int leakAt(int p) {
            return (int) cut(areas[p] * (pressure * pressDown(p) - pressUp[p]), pressDown(p));
        }

        boolean touchesPart() {
            for (int p = 0; p < PLACES; p++) {
                if (hard[p] && tops[p] * down == up) return true;
            }
            return false;
        }
    }
}
