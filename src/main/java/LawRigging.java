/** A harbour court whose law is its rigging: see README.md for how to use it. */
public final class LawRigging {
    public static final int BAD = -1, FULL = -2, FINDING = -3, STATE = -4, SPENT = -6, NONE = -9;

    private static final int NOTHING = 1, BEYOND = 2, UNLIKE = 3, NOUGHT = 4, SIZE = 5;
    private static final int FINDINGS = 5;
    private static final int FINE = 0;
    private static final int ROPE = 0, STAY = 1, SPLICE = 2, RUNNING = 3, TARRED = 4, WIDOW = 5;
    private static final int KINDS = 6;
    private static final int ROWS = 6, ROW_PLACES = 40;
    private static final int TEXTS = 4, TEXT_PLACES = 60, BLANK = 32;
    private static final int MOST_ROPES = 6, MOST_ACTS = 4, MOST_SET = 63;
    private static final int MOST_DEEDS = 40, MOST_TRIED = 4, KEPT_COURTS = 3;
    private static final int MISSING = -1;
    private static final int EVEN_ROPES = 21, ODD_ROPES = 42, MOST_TURNS = 6;
    private static final int TWELFTHS = 12;
    private static final int MOST_PAIR_PLACES = 16;
    private static final int LAST_COUNT = 12;
    private static final int LAST_DETAIL = 5;

    private final Shelf rows = new Shelf(ROWS, ROW_PLACES, 0);
    private final Shelf texts = new Shelf(TEXTS, TEXT_PLACES, BLANK);
    private final Reader reader = new Reader();
    private final Log log = new Log();
    private final int[] triedDeeds = new int[MOST_TRIED];
    private final int[] findingCounts = new int[FINDINGS + 1];
    private Rig rig = new Rig();
    private Rig draft = new Rig();
    private int latestFinding = 0;
    private int latestAsked = 0;
    private long upperTold = 0;
    private long lowerTold = 1;

    public LawRigging() {
    }

    // ---- 1 rows, texts, courts

    public int row(int r, int n) {
        return made(rows, r, n);
    }

    public int lay(int r, int i, int v) {
        int refusal = refusalOfPlace(rows, r, i);
        if (refusal != FINE) {
            return refusal;
        }
        int was = rows.get(r, i);
        rows.set(r, i, v);
        return tell(was);
    }

    public int at(int r, int i) {
        int refusal = refusalOfPlace(rows, r, i);
        return refusal != FINE ? refusal : tell(rows.get(r, i));
    }

    public int tear(int r) {
        int refusal = refusalOfMissing(rows, r);
        if (refusal != FINE) {
            return refusal;
        }
        rows.drop(r);
        return 1;
    }

    public int copy(int r, int i, int to, int j, int n) {
        if (!rows.isNumber(r) || !rows.isNumber(to)) {
            return BAD;
        }
        if (n < 0) {
            return found(SIZE);
        }
        if (!rows.isThere(r) || !rows.isThere(to)) {
            return found(NOTHING);
        }
        if (!rows.hasPlaces(r, i, n) || !rows.hasPlaces(to, j, n)) {
            return found(BEYOND);
        }
        rows.carry(r, i, to, j, n);
        return 1;
    }

    public int mean(int r) {
        int refusal = refusalOfMissing(rows, r);
        if (refusal != FINE) {
            return refusal;
        }
        int size = rows.size(r);
        if (size <= 0) {
            return found(NOUGHT);
        }
        return tell((int) (rows.sum(r) / size));
    }

    public int text(int t, int n) {
        return made(texts, t, n);
    }

    public int put(int t, int i, int v) {
        int refusal = refusalOfPlace(texts, t, i);
        if (refusal != FINE) {
            return refusal;
        }
        int was = texts.get(t, i);
        texts.set(t, i, (byte) v);
        return was + 1000;
    }

    public int fault(int t) {
        int refusal = refusalOfMissing(texts, t);
        return refusal != FINE ? refusal : reader.read(texts, t, draft);
    }

    public int court(int t) {
        int refusal = refusalOfMissing(texts, t);
        if (refusal != FINE) {
            return refusal;
        }
        if (reader.read(texts, t, draft) != NONE) {
            return STATE;
        }
        Rig read = draft;
        draft = rig;
        rig = read;
        log.begin(rig.start);
        return rig.ropes;
    }

    public int rope(int i, int what) {
        if (!rig.isRope(i) || what < 0 || what > LAST_DETAIL) {
            return BAD;
        }
        return tell(detail(i, what));
    }

    public int mark(int i, int kind) {
        if (!rig.isRope(i) || kind <= ROPE || kind >= KINDS) {
            return BAD;
        }
        if (!isOf(rig.kind(i), kind)) {
            return found(UNLIKE);
        }
        long now = log.now();
        switch (kind) {
            case STAY:
                return rig.holds(i) - State.strain(now, i);
            case SPLICE:
                return rig.target(i) == NONE ? 0 : rig.moversOf(rig.target(i)) - 1;
            case RUNNING:
                return passed(rig.kind(i), State.strain(now, i));
            case TARRED:
                return rig.moversOf(i);
            default:
                return Integer.bitCount(State.taut(now) & ~(1 << i));
        }
    }

    // ---- 2 deeds

    public int haul(int i, int n) {
        int refusal = refusalOfHaul(i, n);
        if (refusal != FINE) {
            return refusal;
        }
        long before = log.now();
        long after = rig.hauled(before, i, n);
        return done(after, firstParted(before, after) == NONE ? 0 : 1);
    }

    public int slack(int i) {
        int refusal = refusalOfFast(i);
        if (refusal != FINE) {
            return refusal;
        }
        long before = log.now();
        return done(State.afterLetGo(before, i), State.strain(before, i));
    }

    public int belay(int i) {
        if (!rig.isRope(i)) {
            return BAD;
        }
        long before = log.now();
        if (State.isParted(before, i) || !State.isLetGo(before, i)) {
            return STATE;
        }
        long after = State.afterMadeOff(before, i);
        return done(after, Integer.bitCount(State.letGo(after)));
    }

    public int cut(int i) {
        if (!rig.isRope(i)) {
            return BAD;
        }
        long before = log.now();
        if (State.isParted(before, i)) {
            return STATE;
        }
        long after = State.afterParted(before, 1 << i);
        return done(after, Integer.bitCount(State.parted(after)));
    }

    public int splice(int i) {
        if (!rig.isRope(i)) {
            return BAD;
        }
        long before = log.now();
        if (!State.isParted(before, i)) {
            return STATE;
        }
        long after = State.afterSpliced(before, i);
        return done(after, Integer.bitCount(State.parted(after)));
    }

    public int frost(int on) {
        if (on != 0 && on != 1) {
            return BAD;
        }
        long before = log.now();
        if (rig.isEmpty() || State.frostIn(before) == on) {
            return STATE;
        }
        return done(State.afterFrost(before, on), on);
    }

    public int undo(int n) {
        int deeds = log.deeds();
        if (n < 0 || n > deeds) {
            return BAD;
        }
        log.goBack(n);
        return deeds - n;
    }

    public int keep(int k) {
        if (!log.isKeepingPlace(k)) {
            return BAD;
        }
        if (rig.isEmpty()) {
            return STATE;
        }
        log.store(k);
        return log.deeds();
    }

    public int on(int k) {
        if (!log.isKeepingPlace(k)) {
            return BAD;
        }
        if (log.deedsKept(k) == MISSING) {
            return found(NOTHING);
        }
        log.restore(k);
        return log.deeds();
    }

    // ---- 3 what would be

    public int passes(int i, int n) {
        if (!rig.isRope(i) || n < 0 || n > 99) {
            return BAD;
        }
        return passed(rig.kind(i), n);
    }

    public int moves(int i, int n) {
        int refusal = refusalOfHaul(i, n);
        if (refusal != FINE) {
            return refusal;
        }
        long now = log.now();
        tell(firstParted(now, rig.hauled(now, i, n)));
        return rig.reached;
    }

    public int parts(int i) {
        int refusal = refusalOfFast(i);
        if (refusal != FINE) {
            return refusal;
        }
        long now = log.now();
        for (int n = 1; n <= 20; n++) {
            int which = firstParted(now, rig.hauled(now, i, n));
            if (which != NONE) {
                tell(which);
                return n;
            }
        }
        return NONE;
    }

    public int lawful() {
        return rig.isEmpty() ? STATE : rig.lawfulActs(log.now());
    }

    // ---- 4 what is to be done

    public int least(int a, int r) {
        if (!rig.isAct(a) || !rows.isNumber(r)) {
            return BAD;
        }
        int length = Search.fewest(rig, a, log.now(), triedDeeds);
        if (length == NONE) {
            return NONE;
        }
        rows.make(r, length);
        for (int d = 0; d < length && d < triedDeeds.length; d++) {
            rows.set(r, d, triedDeeds[d]);
        }
        return length;
    }

    public int fall() {
        if (rig.isEmpty()) {
            return STATE;
        }
        int best = NONE;
        for (int set = 0; set < 1 << MOST_ROPES; set++) {
            boolean fewer = best == NONE || Integer.bitCount(set) < Integer.bitCount(best);
            if (fewer && canFall(set) && rig.lawfulActs(State.afterParted(log.now(), set)) == 0) {
                best = set;
            }
        }
        if (best == NONE) {
            return NONE;
        }
        tell(best);
        return Integer.bitCount(best);
    }

    public int idle() {
        if (rig.isEmpty()) {
            return STATE;
        }
        long now = log.now();
        int same = 0;
        for (int i = 0; i < rig.ropes; i++) {
            int set = 1 << i;
            if (canFall(set) && rig.lawfulActs(State.afterParted(now, set)) == rig.lawfulActs(now)) {
                same |= set;
            }
        }
        return same;
    }

    public int share(int v, int r) {
        if (v < 0 || v > 60 || !rows.isNumber(r)) {
            return BAD;
        }
        if (rig.isEmpty()) {
            return STATE;
        }
        rows.make(r, rig.ropes);
        for (int given = 0; given < v; given++) {
            int i = roomiest(r);
            if (i == NONE) {
                return v - given;
            }
            rows.set(r, i, rows.get(r, i) + 1);
        }
        return 0;
    }

    // ---- 5 by what came on

    public int who(int r) {
        int refusal = refusalOfPairs(r);
        if (refusal != FINE) {
            return refusal;
        }
        int kindsLeft = kindsThatFit(r);
        int ropesLeft = 0;
        for (int i = 0; i < rig.ropes; i++) {
            if ((kindsLeft >> rig.kind(i) & 1) != 0) {
                ropesLeft |= 1 << i;
            }
        }
        return ropesLeft;
    }

    public int kinds(int r) {
        int refusal = refusalOfPairs(r);
        return refusal != FINE ? refusal : kindsThatFit(r);
    }

    public int test(int r) {
        int refusal = refusalOfPairs(r);
        if (refusal != FINE) {
            return refusal;
        }
        int kindsLeft = kindsThatFit(r);
        if (kindsLeft == 0) {
            return NONE;
        }
        int best = 0;
        for (int strain = 1; strain <= 20; strain++) {
            if (greatestPart(kindsLeft, strain) < greatestPart(kindsLeft, best)) {
                best = strain;
            }
        }
        tell(greatestPart(kindsLeft, best));
        return best;
    }

    // ---- 6 by turns

    public int duel(int n) {
        if (n < 0 || n > 3) {
            return BAD;
        }
        if (rig.isEmpty()) {
            return STATE;
        }
        return tell(Search.outcome(rig, log.now(), 2 * n));
    }

    // ---- 7 chances, lots

    public int odds(int a, int p) {
        if (!rig.isAct(a) || p < 0 || p > TWELFTHS) {
            return BAD;
        }
        return blow(1 << a, p);
    }

    public int mid(int p) {
        if (p < 0 || p > TWELFTHS) {
            return BAD;
        }
        if (rig.isEmpty()) {
            return STATE;
        }
        return blow((1 << MOST_ACTS) - 1, p);
    }

    public int lots(int n, int seed) {
        if (n < 1 || n > 20 || seed < 1 || seed > 2147483646) {
            return BAD;
        }
        if (rig.isEmpty()) {
            return STATE;
        }
        if (log.isFull(n)) {
            return FULL;
        }
        int number = seed;
        for (int d = 0; d < n; d++) {
            number = (int) (48271L * number % 2147483647L);
            log.add(rig.byLot(log.now(), number));
        }
        return Integer.bitCount(rig.lawfulActs(log.now()));
    }

    // ---- 8 what is told

    public int asked() {
        return latestAsked;
    }

    public long upper() {
        return upperTold;
    }

    public long lower() {
        return lowerTold;
    }

    public int count(int what) {
        if (what < 0 || what > LAST_COUNT) {
            return BAD;
        }
        long now = log.now();
        switch (what) {
            case 0:
                return rig.ropes;
            case 1:
                return rig.acts;
            case 2:
                return log.deeds();
            case 3:
                return State.frostIn(now);
            case 4:
                return State.taut(now);
            case 5:
                return State.letGo(now);
            case 6:
                return State.parted(now);
            case 7:
                return State.allStrains(now);
            case 8:
                return rig.countOf(STAY);
            case 9:
                return rig.countOf(RUNNING);
            case 10:
                return rows.countThere();
            case 11:
                return texts.countThere();
            default:
                return log.countKept();
        }
    }

    public int finding() {
        return latestFinding;
    }

    public int findings(int f) {
        return f < 1 || f > FINDINGS ? BAD : findingCounts[f];
    }

    public long digest() {
        long h = 17;
        for (int what = 0; what <= LAST_COUNT; what++) {
            h = 31 * h + count(what);
        }
        for (int i = 0; i < rig.ropes; i++) {
            for (int what = 0; what <= LAST_DETAIL; what++) {
                h = 31 * h + detail(i, what);
            }
        }
        int lawfulNow = rig.lawfulActs(log.now());
        for (int a = 0; a < rig.acts; a++) {
            h = 31 * h + (lawfulNow >> a & 1);
        }
        for (int k = 0; k < KEPT_COURTS; k++) {
            h = 31 * h + log.deedsKept(k);
        }
        return texts.digestFrom(rows.digestFrom(h));
    }

    // ---- what several calls share

    private int tell(int value) {
        latestAsked = value;
        return 1;
    }

    private int found(int finding) {
        if (finding >= 1 && finding <= FINDINGS) {
            latestFinding = finding;
            findingCounts[finding]++;
        }
        return FINDING;
    }

    private int made(Shelf shelf, int r, int n) {
        if (!shelf.isNumber(r) || n > shelf.most) {
            return BAD;
        }
        if (n < 0) {
            return found(SIZE);
        }
        shelf.make(r, n);
        return n;
    }

    private int refusalOfMissing(Shelf shelf, int r) {
        if (!shelf.isNumber(r)) {
            return BAD;
        }
        return shelf.isThere(r) ? FINE : found(NOTHING);
    }

    private int refusalOfPlace(Shelf shelf, int r, int i) {
        int refusal = refusalOfMissing(shelf, r);
        if (refusal != FINE) {
            return refusal;
        }
        return shelf.hasPlace(r, i) ? FINE : found(BEYOND);
    }

    private int refusalOfFast(int i) {
        if (!rig.isRope(i)) {
            return BAD;
        }
        return State.isFast(log.now(), i) ? FINE : STATE;
    }

    private int refusalOfHaul(int i, int n) {
        return n < 1 || n > 9 ? BAD : refusalOfFast(i);
    }

    /** FULL comes last, so each DEED that is not refused otherwise goes through here. */
    private int done(long after, int answer) {
        if (log.isFull(1)) {
            return FULL;
        }
        log.add(after);
        return answer;
    }

    private int detail(int i, int what) {
        long now = log.now();
        switch (what) {
            case 0:
                return rig.kind(i);
            case 1:
                return rig.holds(i);
            case 2:
                return rig.target(i);
            case 3:
                return State.strain(now, i);
            case 4:
                return State.isLetGo(now, i) ? 0 : 1;
            default:
                return State.isParted(now, i) ? 1 : 0;
        }
    }

    private static int firstParted(long before, long after) {
        int parted = State.parted(after) & ~State.parted(before);
        return parted == 0 ? NONE : Integer.numberOfTrailingZeros(parted);
    }

    private boolean canFall(int set) {
        return (set & ~(rig.allRopes() & ~State.parted(log.now()))) == 0;
    }

    /** The ROPE that HOLDS most more than its STRAIN and its share, which a row tells; NONE: none HOLDS more. */
    private int roomiest(int r) {
        long now = log.now();
        int best = NONE;
        int most = 0;
        for (int i = 0; i < rig.ropes; i++) {
            int room = rig.holds(i) - State.strain(now, i) - rows.get(r, i);
            if (State.isFast(now, i) && room > most) {
                best = i;
                most = room;
            }
        }
        return best;
    }

    /** What a ROW that is to be one of pairs is refused by. */
    private int refusalOfPairs(int r) {
        int refusal = refusalOfMissing(rows, r);
        if (refusal != FINE) {
            return refusal;
        }
        int size = rows.size(r);
        if (size > MOST_PAIR_PLACES || size % 2 != 0) {
            return found(SIZE);
        }
        for (int i = 0; i < size; i++) {
            if (rows.get(r, i) < 0 || rows.get(r, i) > 99) {
                return found(UNLIKE);
            }
        }
        return FINE;
    }

    private int kindsThatFit(int r) {
        int fitting = 0;
        for (int kind = 0; kind < KINDS; kind++) {
            boolean fits = true;
            for (int i = 0; i + 1 < rows.size(r); i += 2) {
                fits = fits && passed(kind, rows.get(r, i)) == rows.get(r, i + 1);
            }
            if (fits) {
                fitting |= 1 << kind;
            }
        }
        return fitting;
    }

    private static int greatestPart(int kindSet, int strain) {
        int greatest = 0;
        for (int kind = 0; kind < KINDS; kind++) {
            int part = 0;
            for (int other = 0; other < KINDS; other++) {
                if ((kindSet >> other & 1) != 0 && passed(other, strain) == passed(kind, strain)) {
                    part++;
                }
            }
            greatest = Math.max(greatest, part);
        }
        return greatest;
    }

    /** Tells the mean of how many of a set of ACTS are LAWFUL behind a blow. */
    private int blow(int actSet, int p) {
        long now = log.now();
        int standing = rig.allRopes() & ~State.parted(now);
        int ropesStanding = Integer.bitCount(standing);
        long sum = 0;
        for (int set = 0; set < 1 << MOST_ROPES; set++) {
            if ((set & ~standing) == 0) {
                int fallen = Integer.bitCount(set);
                long weight = power(p, fallen) * power(TWELFTHS - p, ropesStanding - fallen);
                sum += weight * Integer.bitCount(rig.lawfulActs(State.afterParted(now, set)) & actSet);
            }
        }
        return tellPart(sum, power(TWELFTHS, ropesStanding));
    }

    private int tellPart(long part, long whole) {
        long divisor = greatestDivisor(part, whole);
        if (divisor > 0) {
            upperTold = part / divisor;
            lowerTold = whole / divisor;
        }
        return 1;
    }

    private static long greatestDivisor(long a, long b) {
        long greater = a;
        long lesser = b;
        for (int step = 0; step < 200 && lesser != 0; step++) {
            long rest = greater % lesser;
            greater = lesser;
            lesser = rest;
        }
        return greater;
    }

    private static long power(int base, int exponent) {
        long product = 1;
        for (int i = 0; i < exponent; i++) {
            product *= base;
        }
        return product;
    }

    private static boolean isOf(int kind, int wanted) {
        return kind == wanted || wanted == ROPE
            || kind == TARRED && wanted == STAY
            || kind == WIDOW && wanted == RUNNING;
    }

    /** What a ROPE of a KIND PASSES of a strain. */
    private static int passed(int kind, int strain) {
        switch (kind) {
            case STAY:
            case TARRED:
                return 0;
            case SPLICE:
                return strain;
            case RUNNING:
                return Math.max(strain - 1, 0);
            case WIDOW:
                return Math.max(strain - 1, 0) / 2;
            default:
                return strain / 2;
        }
    }

    /** Rows of numbers by number, each there with so many places, or missing. */
    private static final class Shelf {
        final int most;
        private final int blank;
        private final int[][] places;
        private final int[] sizes;

        Shelf(int number, int most, int blank) {
            this.most = most;
            this.blank = blank;
            places = new int[Math.max(number, 0)][Math.max(most, 0)];
            sizes = new int[places.length];
            for (int r = 0; r < sizes.length; r++) {
                sizes[r] = MISSING;
            }
        }

        boolean isNumber(int r) {
            return r >= 0 && r < sizes.length;
        }

        boolean isThere(int r) {
            return size(r) != MISSING;
        }

        int size(int r) {
            return isNumber(r) ? sizes[r] : MISSING;
        }

        boolean hasPlace(int r, int i) {
            return i >= 0 && i < size(r);
        }

        boolean hasPlaces(int r, int from, int n) {
            return from >= 0 && from <= size(r) && n >= 0 && n <= size(r) - from;
        }

        int get(int r, int i) {
            return hasPlace(r, i) ? places[r][i] : 0;
        }

        void set(int r, int i, int v) {
            if (hasPlace(r, i)) {
                places[r][i] = v;
            }
        }

        void make(int r, int n) {
            if (isNumber(r) && n >= 0 && n <= most) {
                sizes[r] = n;
                for (int i = 0; i < n; i++) {
                    places[r][i] = blank;
                }
            }
        }

        void drop(int r) {
            if (isNumber(r)) {
                sizes[r] = MISSING;
            }
        }

        void carry(int r, int from, int to, int onto, int n) {
            if (hasPlaces(r, from, n) && hasPlaces(to, onto, n)) {
                System.arraycopy(places[r], from, places[to], onto, n);
            }
        }

        long sum(int r) {
            long sum = 0;
            for (int i = 0; i < size(r); i++) {
                sum += get(r, i);
            }
            return sum;
        }

        int countThere() {
            int there = 0;
            for (int r = 0; r < sizes.length; r++) {
                if (isThere(r)) {
                    there++;
                }
            }
            return there;
        }

        long digestFrom(long start) {
            long h = start;
            for (int r = 0; r < sizes.length; r++) {
                h = 31 * h + size(r);
                for (int i = 0; i < size(r); i++) {
                    h = 31 * h + get(r, i);
                }
            }
            return h;
        }
    }

    /**
     * How the ROPES of a COURT are at one time, as one number, so that what would be is tried on a
     * number of its own and the COURT stays as it is: four bits a STRAIN, then the ropes LET GO,
     * those that have PARTED, FROST.
     */
    private static final class State {
        private static final int LET_GO_AT = 24, PARTED_AT = 30, FROST_AT = 36;

        static int strain(long state, int i) {
            return (int) (state >> (4 * i)) & 15;
        }

        static int letGo(long state) {
            return (int) (state >> LET_GO_AT) & MOST_SET;
        }

        static int parted(long state) {
            return (int) (state >> PARTED_AT) & MOST_SET;
        }

        static int frostIn(long state) {
            return (int) (state >> FROST_AT) & 1;
        }

        static boolean isLetGo(long state, int i) {
            return (letGo(state) >> i & 1) != 0;
        }

        static boolean isParted(long state, int i) {
            return (parted(state) >> i & 1) != 0;
        }

        /** Whether strain can come to a ROPE: it is made off and has not PARTED. */
        static boolean isFast(long state, int i) {
            return !isLetGo(state, i) && !isParted(state, i);
        }

        static int taut(long state) {
            int set = 0;
            for (int i = 0; i < MOST_ROPES; i++) {
                if (strain(state, i) > 0) {
                    set |= 1 << i;
                }
            }
            return set;
        }

        static int allStrains(long state) {
            int sum = 0;
            for (int i = 0; i < MOST_ROPES; i++) {
                sum += strain(state, i);
            }
            return sum;
        }

        static long afterStrain(long state, int i, int strain) {
            return (state & ~(15L << (4 * i))) | ((long) (strain & 15) << (4 * i));
        }

        static long afterLetGo(long state, int i) {
            return afterStrain(state, i, 0) | (1L << (LET_GO_AT + i));
        }

        static long afterMadeOff(long state, int i) {
            return state & ~(1L << (LET_GO_AT + i));
        }

        static long afterParted(long state, int set) {
            long after = state;
            for (int i = 0; i < MOST_ROPES; i++) {
                if ((set >> i & 1) != 0) {
                    after = afterStrain(after, i, 0) | (1L << (PARTED_AT + i));
                }
            }
            return after;
        }

        static long afterSpliced(long state, int i) {
            return afterMadeOff(afterStrain(state, i, 0), i) & ~(1L << (PARTED_AT + i));
        }

        static long afterFrost(long state, int on) {
            return (state & ~(1L << FROST_AT)) | ((long) (on & 1) << FROST_AT);
        }
    }

    /** The ROPES and ACTS of a COURT as its TEXT tells them, and what a haul at them does. */
    private static final class Rig {
        int ropes = 0;
        int acts = 0;
        long start = 0;
        /** The ROPES to which strain came by the latest hauled(). */
        int reached = 0;
        private final int[] ropeKinds = new int[MOST_ROPES];
        private final int[] strengths = new int[MOST_ROPES];
        private final int[] moved = new int[MOST_ROPES];
        private final int[] needs = new int[MOST_ACTS];
        private final int[] forbids = new int[MOST_ACTS];

        void clear() {
            ropes = 0;
            acts = 0;
            start = 0;
            reached = 0;
        }

        void addRope(int kind, int strength, int moves, int strain) {
            if (ropes >= 0 && ropes < MOST_ROPES) {
                ropeKinds[ropes] = kind;
                strengths[ropes] = strength;
                moved[ropes] = moves;
                start = State.afterStrain(start, ropes, strain);
                ropes++;
            }
        }

        void addAct(int needed, int forbidden) {
            if (acts >= 0 && acts < MOST_ACTS) {
                needs[acts] = needed;
                forbids[acts] = forbidden;
                acts++;
            }
        }

        boolean isEmpty() {
            return ropes == 0;
        }

        int allRopes() {
            return (1 << ropes) - 1;
        }

        boolean isRope(int i) {
            return i >= 0 && i < ropes && i < MOST_ROPES;
        }

        boolean isAct(int a) {
            return a >= 0 && a < acts && a < MOST_ACTS;
        }

        int kind(int i) {
            return isRope(i) ? ropeKinds[i] : ROPE;
        }

        int holds(int i) {
            return !isRope(i) ? 0 : kind(i) == SPLICE ? strengths[i] - 1 : strengths[i];
        }

        /** Which ROPE one MOVES; NONE: none. */
        int target(int i) {
            return isRope(i) && moved[i] != i && isRope(moved[i]) ? moved[i] : NONE;
        }

        int moversOf(int i) {
            int movers = 0;
            for (int j = 0; j < ropes; j++) {
                if (target(j) == i) {
                    movers++;
                }
            }
            return movers;
        }

        int countOf(int kind) {
            int number = 0;
            for (int i = 0; i < ropes; i++) {
                if (isOf(kind(i), kind)) {
                    number++;
                }
            }
            return number;
        }

        int needed(int a) {
            return isAct(a) ? needs[a] & allRopes() : 0;
        }

        int forbidden(int a) {
            return isAct(a) ? forbids[a] & allRopes() : 0;
        }

        int lawfulActs(long state) {
            int taut = State.taut(state);
            int set = 0;
            for (int a = 0; a < acts; a++) {
                if ((needed(a) & ~taut) == 0 && (forbidden(a) & taut) == 0) {
                    set |= 1 << a;
                }
            }
            return set;
        }

        long hauled(long state, int first, int n) {
            long after = state;
            int i = first;
            int strain = State.frostIn(state) != 0 && kind(first) != TARRED ? n + 1 : n;
            reached = 0;
            for (int step = 0; step < MOST_ROPES && strain > 0 && canReach(after, i); step++) {
                reached |= 1 << i;
                int borne = State.strain(after, i) + strain;
                if (borne > holds(i)) {
                    return State.afterParted(after, 1 << i);
                }
                after = State.afterStrain(after, i, borne);
                strain = passed(kind(i), strain);
                i = target(i);
            }
            return after;
        }

        private boolean canReach(long state, int i) {
            return isRope(i) && State.isFast(state, i) && (reached >> i & 1) == 0;
        }

        /** What a number drawn by lots does; it may do nothing. */
        long byLot(long state, int number) {
            if (ropes <= 0) {
                return state;
            }
            int i = number % ropes;
            int deed = number / 8 % 8;
            switch (deed) {
                case 5:
                    if (State.isParted(state, i)) {
                        return state;
                    }
                    return State.isLetGo(state, i) ? State.afterMadeOff(state, i) : State.afterLetGo(state, i);
                case 6:
                    return State.isParted(state, i) ? State.afterSpliced(state, i) : state;
                case 7:
                    return State.afterFrost(state, 1 - State.frostIn(state));
                default:
                    return State.isFast(state, i) ? hauled(state, i, 1 + number / 64 % 4) : state;
            }
        }
    }

    /** Reads a TEXT as a COURT, up to its first FAULT. */
    private static final class Reader {
        private final int[] signs = new int[TEXT_PLACES];
        private int size = 0;
        private int place = 0;
        private int firstFault = NONE;
        private boolean headRead = false;

        /** The FAULT of a TEXT, NONE if there is none: only then is the rig whole. */
        int read(Shelf texts, int t, Rig rig) {
            take(texts, t);
            rig.clear();
            for (int items = 0; items < TEXT_PLACES && firstFault == NONE && isMoreAhead(); items++) {
                readItem(rig);
            }
            if (firstFault == NONE && rig.acts == 0) {
                firstFault = size;
            }
            return firstFault;
        }

        private void take(Shelf texts, int t) {
            size = Math.min(texts.size(t), signs.length);
            for (int i = 0; i < size; i++) {
                signs[i] = texts.get(t, i);
            }
            place = 0;
            firstFault = NONE;
            headRead = false;
        }

        private boolean isMoreAhead() {
            while (place < size && sign() == BLANK) {
                place++;
            }
            return place < size;
        }

        private int sign() {
            return place >= 0 && place < size && place < signs.length ? signs[place] : BLANK;
        }

        private void readItem(Rig rig) {
            int letter = sign();
            int kind = kindOfLetter(letter);
            if (!headRead && letter == 'h') {
                readHead(rig);
            } else if (headRead && letter == 'a' && rig.ropes > 0 && rig.acts < MOST_ACTS) {
                readAct(rig);
            } else if (headRead && kind != NONE && rig.acts == 0 && rig.ropes < MOST_ROPES) {
                readRope(rig, kind);
            } else {
                firstFault = place;
            }
        }

        private void readHead(Rig rig) {
            place++;
            int on = figure(0, 1);
            headRead = true;
            rig.start = State.afterFrost(rig.start, on);
        }

        private void readRope(Rig rig, int kind) {
            place++;
            int strength = figure(1, 9);
            int moves = figure(0, MOST_ROPES - 1);
            int strain = figure(0, strength);
            if (firstFault == NONE) {
                rig.addRope(kind, strength, moves, strain);
            }
        }

        private void readAct(Rig rig) {
            place++;
            int needed = ropeSet();
            int forbidden = ropeSet();
            if (firstFault == NONE) {
                rig.addAct(needed, forbidden);
            }
        }

        private int ropeSet() {
            int first = place;
            int tens = figure(0, 9);
            int set = 10 * tens + figure(0, 9);
            if (firstFault == NONE && set > MOST_SET) {
                firstFault = first;
            }
            return set;
        }

        /** Behind a FAULT it reads on no more, so that the first one stays. */
        private int figure(int low, int high) {
            if (firstFault != NONE) {
                return 0;
            }
            if (place >= size) {
                firstFault = size;
                return 0;
            }
            int value = sign() - '0';
            if (value < low || value > high) {
                firstFault = place;
                return 0;
            }
            place++;
            return value;
        }

        private static int kindOfLetter(int letter) {
            switch (letter) {
                case 'r':
                    return ROPE;
                case 's':
                    return STAY;
                case 'p':
                    return SPLICE;
                case 'n':
                    return RUNNING;
                case 't':
                    return TARRED;
                case 'w':
                    return WIDOW;
                default:
                    return NONE;
            }
        }
    }

    /** The states of the COURT at first and behind each DEED, and those of the COURTS that are kept. */
    private static final class Log {
        private final long[] states = new long[MOST_DEEDS + 1];
        private int size = 0;
        private final long[][] keptStates = new long[KEPT_COURTS][MOST_DEEDS + 1];
        private final int[] keptSizes = new int[KEPT_COURTS];

        Log() {
            for (int k = 0; k < KEPT_COURTS; k++) {
                keptSizes[k] = MISSING;
            }
        }

        void begin(long start) {
            size = 0;
            states[0] = start;
            for (int k = 0; k < KEPT_COURTS; k++) {
                keptSizes[k] = MISSING;
            }
        }

        int deeds() {
            return size;
        }

        long now() {
            return size >= 0 && size <= MOST_DEEDS ? states[size] : 0;
        }

        /** Whether there is no place for n more DEEDS. */
        boolean isFull(int n) {
            return size + n > MOST_DEEDS;
        }

        void add(long state) {
            if (size >= 0 && size < MOST_DEEDS) {
                size++;
                states[size] = state;
            }
        }

        void goBack(int n) {
            if (n >= 0 && n <= size) {
                size = n;
            }
        }

        boolean isKeepingPlace(int k) {
            return k >= 0 && k < KEPT_COURTS;
        }

        int deedsKept(int k) {
            return isKeepingPlace(k) ? keptSizes[k] : MISSING;
        }

        int countKept() {
            int number = 0;
            for (int k = 0; k < KEPT_COURTS; k++) {
                if (keptSizes[k] != MISSING) {
                    number++;
                }
            }
            return number;
        }

        void store(int k) {
            if (isKeepingPlace(k)) {
                for (int d = 0; d <= size && d <= MOST_DEEDS; d++) {
                    keptStates[k][d] = states[d];
                }
                keptSizes[k] = size;
            }
        }

        void restore(int k) {
            if (isKeepingPlace(k) && keptSizes[k] != MISSING) {
                size = keptSizes[k];
                for (int d = 0; d <= size && d <= MOST_DEEDS; d++) {
                    states[d] = keptStates[k][d];
                }
            }
        }
    }

    /** Tries deeds one behind another on states of their own. */
    private static final class Search {

        /** How many deeds make an ACT LAWFUL, told in the row tried; NONE: no four do. */
        static int fewest(Rig rig, int act, long state, int[] tried) {
            for (int length = 0; length <= MOST_TRIED; length++) {
                if (isReached(rig, act, state, tried, length, length)) {
                    return length;
                }
            }
            return NONE;
        }

        private static boolean isReached(Rig rig, int act, long state, int[] tried, int length, int left) {
            if (left < 0 || left > length || isTooFar(rig, act, state, left)) {
                return false;
            }
            if (left == 0) {
                return true;
            }
            int place = length - left;
            if (place >= tried.length) {
                return false;
            }
            for (int deed = 0; deed < 2 * MOST_ROPES; deed++) {
                int i = deed % MOST_ROPES;
                if (rig.isRope(i) && State.isFast(state, i)) {
                    long after = deed < MOST_ROPES ? rig.hauled(state, i, 1) : State.afterLetGo(state, i);
                    tried[place] = deed;
                    if (State.parted(after) == State.parted(state)
                        && isReached(rig, act, after, tried, length, left - 1)) {
                        return true;
                    }
                }
            }
            return false;
        }

        /**
         * Whether so many deeds can't do (with none left: whether the ACT is not LAWFUL), seen ahead
         * to spare most of the trying: a ROPE LET GO or PARTED is TAUT no more, each that is TAUT
         * and forbidden must be LET GO by a deed of its own, and if one lacks there is a HAUL besides.
         */
        private static boolean isTooFar(Rig rig, int act, long state, int left) {
            int taut = State.taut(state);
            int lost = State.letGo(state) | State.parted(state);
            int lacking = rig.needed(act) & ~taut;
            int lettings = Integer.bitCount(rig.forbidden(act) & taut);
            return (lacking & lost) != 0 || lettings + (lacking != 0 ? 1 : 0) > left;
        }

        /** How many more odd ROPES than even ones have PARTED, if both play as well as can be. */
        static int outcome(Rig rig, long state, int turnsLeft) {
            return played(rig, state, Math.min(turnsLeft, MOST_TURNS));
        }

        private static int played(Rig rig, long state, int turnsLeft) {
            if (turnsLeft <= 0) {
                int parted = State.parted(state);
                return Integer.bitCount(parted & ODD_ROPES) - Integer.bitCount(parted & EVEN_ROPES);
            }
            boolean isFirstOne = turnsLeft % 2 == 0;
            int best = played(rig, state, turnsLeft - 1);
            for (int i = isFirstOne ? 0 : 1; i < rig.ropes; i += 2) {
                if (State.isFast(state, i)) {
                    int value = played(rig, rig.hauled(state, i, 1), turnsLeft - 1);
                    best = isFirstOne ? Math.max(best, value) : Math.min(best, value);
                }
            }
            return best;
        }
    }
}
