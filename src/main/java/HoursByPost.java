import java.util.Arrays;

/** A house to which the hours come by post, out of order. */
public final class HoursByPost {
    public static final int BAD = -1, FULL = -2, FINDING = -3, STATE = -4, SPENT = -6, NONE = -9;

    private static final int NOTHING = 1, BEYOND = 2, UNLIKE = 3, NOUGHT = 4, SIZE = 5;

    private static final int ROWS = 6, ROW_SIZE = 40, TEXTS = 4, TEXT_SIZE = 80, BLANK = 32;
    private static final int DEEDS = 6, HOURS = 7, ROUTES = 3, STEPS = 40, PLACES = 3;
    private static final int MISSING = -1, BYTE_SHIFT = 1000;
    private static final int LONGEST_ROUTE = 9, LAST_DAY = 20, MOST_LOTS = 20;
    private static final int HOURS_OF_DAY = 24;
    private static final int COUNTS = 9, DEED_FACTS = 5, HOUR_FACTS = 5;

    private static final int MEAL = 1, SLEEP = 2, LETTER = 3, FEAST = 4, NAP = 5;
    private static final int[] KIND_SIGNS = {'d', 'm', 's', 'l', 'f', 'p'};
    private static final int DAY_LIGHT = 0, EITHER_LIGHT = 2;
    private static final int[] LIGHT_SIGNS = {'d', 'n', 'e'};
    private static final int[] FIRST_ROUTES = {1, 2, 4};
    private static final int MEAL_GAP = 2, FEAST_COMPANY = 2;

    private static final int DAY_STEP = 0, OPEN_STEP = 1, SEND_STEP = 2;
    private static final int ON_ITS_WAY = 0, ON_SHELF = 1, OPENED = 2, SENT_BACK = 3;
    private static final int IS_DONE = 1, LACKS_NEED = 2, LACKS_LIGHT = 3, LACKS_KIND = 4;

    private static final int HOUR_SETS = 1 << HOURS, DEED_SETS = 1 << DEEDS, GAPS = MEAL_GAP + 1;
    /** Of each DEED the sets of DEEDS (a bit each) in which it is. */
    private static final long[] SETS_WITH = {
        0xAAAAAAAAAAAAAAAAL, 0xCCCCCCCCCCCCCCCCL, 0xF0F0F0F0F0F0F0F0L,
        0xFF00FF00FF00FF00L, 0xFFFF0000FFFF0000L, 0xFFFFFFFF00000000L};
    /** The sets of no DEEDS, of one, of two, .. (a bit each). */
    private static final long[] SETS_OF = {
        0x0000000000000001L, 0x0000000100010116L, 0x0001011601161668L, 0x0116166816686880L,
        0x1668688068808000L, 0x6880800080000000L, 0x8000000000000000L};

    private static final long LOT_FACTOR = 48271L, LOT_MODULUS = 2147483647L;
    private static final int LAST_SEED = 2147483646, LOT_CUT = 64;

    private final Rows rows = new Rows(ROWS, ROW_SIZE);
    private final Rows texts = new Rows(TEXTS, TEXT_SIZE);
    private final Reading reading = new Reading();
    private final Plan plan = new Plan();
    private final Course course = new Course(plan);
    private final Course[] kept = {new Course(plan), new Course(plan), new Course(plan)};
    private final boolean[] isKept = new boolean[PLACES];
    private final Orders orders = new Orders(plan);
    private final int[] findingCounts = new int[SIZE + 1];
    private int latestFinding = 0;
    private int told = 0;
    private long upperTold = 0;
    private long lowerTold = 1;

    public HoursByPost() {
    }

    // ---- 1 rows, texts, houses

    public int row(int r, int n) {
        if (!rows.knows(r) || n > ROW_SIZE) {
            return BAD;
        }
        if (n < 0) {
            return find(SIZE);
        }
        rows.begin(r, n, 0);
        return n;
    }

    public int lay(int r, int i, int v) {
        int refusal = refusalOfPlace(rows, r, i);
        return refusal != 0 ? refusal : tell(rows.exchange(r, i, v));
    }

    public int at(int r, int i) {
        int refusal = refusalOfPlace(rows, r, i);
        return refusal != 0 ? refusal : tell(rows.cells[r][i]);
    }

    public int tear(int r) {
        int refusal = refusalOf(rows, r);
        if (refusal != 0) {
            return refusal;
        }
        rows.sizes[r] = MISSING;
        return 1;
    }

    public int copy(int r, int i, int to, int j, int n) {
        if (!rows.knows(r) || !rows.knows(to)) {
            return BAD;
        }
        if (n < 0) {
            return find(SIZE);
        }
        if (!rows.isThere(r) || !rows.isThere(to)) {
            return find(NOTHING);
        }
        if (!rows.reaches(r, i, n) || !rows.reaches(to, j, n)) {
            return find(BEYOND);
        }
        System.arraycopy(rows.cells[r], i, rows.cells[to], j, n);
        return 1;
    }

    public int mean(int r) {
        int refusal = refusalOf(rows, r);
        if (refusal != 0) {
            return refusal;
        }
        if (rows.sizes[r] == 0) {
            return find(NOUGHT);
        }
        return tell((int) (rows.sum(r) / rows.sizes[r]));
    }

    public int text(int t, int n) {
        if (!texts.knows(t) || n > TEXT_SIZE) {
            return BAD;
        }
        if (n < 0) {
            return find(SIZE);
        }
        texts.begin(t, n, BLANK);
        return n;
    }

    public int put(int t, int i, int v) {
        int refusal = refusalOfPlace(texts, t, i);
        return refusal != 0 ? refusal : texts.exchange(t, i, (byte) v) + BYTE_SHIFT;
    }

    public int fault(int t) {
        int refusal = refusalOf(texts, t);
        return refusal != 0 ? refusal : reading.firstFault(texts.cells[t], texts.sizes[t]);
    }

    public int house(int t) {
        int refusal = refusalOf(texts, t);
        if (refusal != 0) {
            return refusal;
        }
        if (reading.firstFault(texts.cells[t], texts.sizes[t]) != NONE) {
            return STATE;
        }
        plan.become(reading.draft);
        course.begin();
        for (int k = 0; k < PLACES; k++) {
            isKept[k] = false;
        }
        return plan.deeds;
    }

    public int deed(int i, int what) {
        if (!plan.hasDeed(i) || what < 0 || what >= DEED_FACTS) {
            return BAD;
        }
        return tell(deedFact(i, what));
    }

    public int hour(int h, int what) {
        if (!plan.hasHour(h) || what < 0 || what >= HOUR_FACTS) {
            return BAD;
        }
        return tell(hourFact(h, what));
    }

    public int mark(int i, int kind) {
        if (!plan.hasDeed(i) || kind < MEAL || kind > NAP) {
            return BAD;
        }
        if (!plan.isOfKind(i, kind)) {
            return find(UNLIKE);
        }
        switch (kind) {
            case MEAL:
                return course.sinceMeal;
            case SLEEP:
                return hoursFor(i);
            case LETTER:
                return Integer.bitCount(plan.neededBy(i, plan.needs));
            case FEAST:
                return plan.company(i, course.done);
            default:
                return plan.hoursOfLightFor(i);
        }
    }

    public int route(int k, int v) {
        if (k < 0 || k >= ROUTES || v < 0 || v > LONGEST_ROUTE) {
            return BAD;
        }
        if (course.steps > 0) {
            return STATE;
        }
        int was = course.routeDays[k];
        course.routeDays[k] = v;
        return was;
    }

    // ---- 2 steps

    public int day() {
        if (plan.deeds == 0) {
            return STATE;
        }
        if (course.isFull()) {
            return FULL;
        }
        course.take(DAY_STEP, NONE, NONE);
        return course.today;
    }

    public int open(int h, int deed) {
        if (!plan.hasHour(h) || deed != NONE && !plan.hasDeed(deed)) {
            return BAD;
        }
        if (course.whereIs(h) != ON_SHELF || deed != NONE && course.hindrance(deed, h) != 0) {
            return STATE;
        }
        if (course.isFull()) {
            return FULL;
        }
        course.take(OPEN_STEP, h, deed);
        return course.done;
    }

    public int send(int h) {
        if (!plan.hasHour(h)) {
            return BAD;
        }
        if (course.whereIs(h) != ON_SHELF) {
            return STATE;
        }
        if (course.isFull()) {
            return FULL;
        }
        course.take(SEND_STEP, h, NONE);
        return Integer.bitCount(course.shelfBits());
    }

    public int undo(int n) {
        if (n < 0 || n > course.steps) {
            return BAD;
        }
        return course.goBackTo(n);
    }

    public int shelf() {
        if (plan.deeds == 0) {
            return STATE;
        }
        told = course.today;
        return course.shelfBits();
    }

    public int keep(int k) {
        if (k < 0 || k >= PLACES) {
            return BAD;
        }
        if (plan.deeds == 0) {
            return STATE;
        }
        kept[k].become(course);
        isKept[k] = true;
        return course.steps;
    }

    public int on(int k) {
        if (k < 0 || k >= PLACES) {
            return BAD;
        }
        if (!isKept[k]) {
            return find(NOTHING);
        }
        course.become(kept[k]);
        return course.steps;
    }

    // ---- 3 what can be

    public int can(int h) {
        return plan.hasHour(h) ? course.deedsFor(h) : BAD;
    }

    public int why(int i, int h) {
        if (!plan.hasDeed(i) || !plan.hasHour(h)) {
            return BAD;
        }
        int hindrance = course.hindrance(i, h);
        told = hindrance == LACKS_NEED ? firstOf(plan.needs[i] & ~course.done) : NONE;
        return hindrance;
    }

    public int opens(int i) {
        if (!plan.hasDeed(i)) {
            return BAD;
        }
        told = plan.neededBy(i, plan.needsInTheEnd);
        return Integer.bitCount(told);
    }

    public int late() {
        if (plan.deeds == 0) {
            return STATE;
        }
        int last = 0;
        int underWay = 0;
        for (int h = 0; h < plan.hours; h++) {
            last = Math.max(last, course.comingDay(h));
            underWay += course.whereIs(h) == ON_ITS_WAY ? 1 : 0;
        }
        told = underWay;
        return last;
    }

    // ---- 4 orders (aside)

    public int run(int r) {
        int refusal = refusalInHouse(r);
        if (refusal != 0) {
            return refusal;
        }
        int size = rows.sizes[r];
        if (size % 2 != 0 || size > 2 * HOURS) {
            return find(SIZE);
        }
        if (!areAllPairs(rows.cells[r], size)) {
            return find(UNLIKE);
        }
        orders.start(course, course.shelfBits());
        int pairs = orders.follow(rows.cells[r], size / 2);
        told = orders.done;
        return pairs;
    }

    public int most() {
        if (plan.deeds == 0) {
            return STATE;
        }
        orders.explore(course, course.shelfBits());
        int best = orders.mostDone(0);
        told = orders.fewestHoursFor(best);
        return best;
    }

    public int fewest(int i) {
        if (!plan.hasDeed(i)) {
            return BAD;
        }
        orders.explore(course, course.shelfBits());
        return orders.fewestHoursTo(i);
    }

    public int order(int i, int r) {
        if (!plan.hasDeed(i) || !rows.knows(r)) {
            return BAD;
        }
        orders.explore(course, course.shelfBits());
        int pairs = orders.fewestHoursTo(i);
        if (pairs == NONE) {
            return NONE;
        }
        rows.begin(r, 2 * pairs, 0);
        orders.writeFirst(i, pairs, rows.cells[r]);
        return pairs;
    }

    public int shut() {
        if (plan.deeds == 0) {
            return STATE;
        }
        int shelf = course.shelfBits();
        orders.explore(course, shelf);
        int best = orders.mostDone(0);
        int spare = 0;
        for (int h = 0; h < plan.hours; h++) {
            if (isIn(shelf, h) && orders.mostDone(1 << h) == best) {
                spare |= 1 << h;
            }
        }
        return spare;
    }

    public int waits(int i) {
        if (!plan.hasDeed(i)) {
            return BAD;
        }
        orders.explore(course, course.unopenedBits());
        int first = NONE;
        for (int hours = 0; hours < HOUR_SETS; hours++) {
            if (orders.does(i, hours)) {
                int ready = course.dayOfAll(hours);
                first = first == NONE ? ready : Math.min(first, ready);
            }
        }
        return first > LAST_DAY ? NONE : first;
    }

    // ---- 5 diaries, thieves

    public int diary(int r) {
        int refusal = diaryRefusal(r);
        if (refusal != 0) {
            return refusal;
        }
        int ways = 1;
        for (int p = 0; p < rows.sizes[r]; p++) {
            ways *= hoursLeftFor(rows.cells[r], p);
        }
        boolean isLived = rows.sizes[r] > 0 && ways > 0;
        told = isLived ? firstOf(plan.hoursAt(rows.cells[r][0])) : NONE;
        return ways;
    }

    public int forged(int r) {
        int refusal = diaryRefusal(r);
        if (refusal != 0) {
            return refusal;
        }
        for (int p = 0; p < rows.sizes[r]; p++) {
            if (hoursLeftFor(rows.cells[r], p) == 0) {
                return p;
            }
        }
        return NONE;
    }

    public int stolen(int n, int day) {
        if (n < 0 || n > HOURS || day < 0 || day > LAST_DAY) {
            return BAD;
        }
        int come = course.comeBits(day);
        return Integer.bitCount(come) == n + 1 ? come : 0;
    }

    // ---- 6 chances, lots

    public int odds(int i) {
        if (!plan.hasDeed(i)) {
            return BAD;
        }
        int shelf = course.shelfBits();
        orders.explore(course, shelf);
        long fitting = orders.setsEnoughFor(i);
        long all = 1L << Integer.bitCount(shelf);
        // All chances are over a power of two, so that halving brings the lowest terms.
        for (int k = 0; k < HOURS && fitting % 2 == 0 && all % 2 == 0; k++) {
            fitting /= 2;
            all /= 2;
        }
        upperTold = fitting;
        lowerTold = all;
        return 1;
    }

    public int lots(int n, int seed) {
        if (n < 1 || n > MOST_LOTS || seed < 1 || seed > LAST_SEED) {
            return BAD;
        }
        if (plan.deeds == 0) {
            return STATE;
        }
        int before = Integer.bitCount(course.done);
        long lot = seed;
        for (int k = 0; k < n && !course.isFull(); k++) {
            lot = lot * LOT_FACTOR % LOT_MODULUS;
            liveByLot((int) lot);
        }
        return Integer.bitCount(course.done) - before;
    }

    // ---- 7 what is told

    public int asked() {
        return told;
    }

    public long upper() {
        return upperTold;
    }

    public long lower() {
        return lowerTold;
    }

    public int count(int what) {
        return what < 0 || what >= COUNTS ? BAD : countOf(what);
    }

    public int finding() {
        return latestFinding;
    }

    public int findings(int f) {
        return f < NOTHING || f > SIZE ? BAD : findingCounts[f];
    }

    public long digest() {
        long h = 17;
        for (int what = 0; what < COUNTS; what++) {
            h = 31 * h + countOf(what);
        }
        h = 31 * h + course.today;
        for (int k = 0; k < ROUTES; k++) {
            h = 31 * h + course.routeDays[k];
        }
        for (int i = 0; i < plan.deeds; i++) {
            for (int what = 0; what < DEED_FACTS; what++) {
                h = 31 * h + deedFact(i, what);
            }
        }
        for (int i = 0; i < plan.hours; i++) {
            for (int what = 0; what < HOUR_FACTS; what++) {
                h = 31 * h + hourFact(i, what);
            }
        }
        for (int k = 0; k < PLACES; k++) {
            h = 31 * h + (isKept[k] ? kept[k].steps : MISSING);
        }
        return texts.digestOnFrom(rows.digestOnFrom(h));
    }

    // ---- what the calls share

    private int find(int finding) {
        latestFinding = finding;
        findingCounts[finding]++;
        return FINDING;
    }

    /** BAD or NOTHING, or 0, if there is such a row. */
    private int refusalOf(Rows those, int r) {
        if (!those.knows(r)) {
            return BAD;
        }
        return those.isThere(r) ? 0 : find(NOTHING);
    }

    /** BAD, STATE or NOTHING, or 0, if there is such a ROW, and a HOUSE in which it is read. */
    private int refusalInHouse(int r) {
        if (rows.knows(r) && plan.deeds == 0) {
            return STATE;
        }
        return refusalOf(rows, r);
    }

    /** BAD, NOTHING or BEYOND, or 0, if there is such a place. */
    private int refusalOfPlace(Rows those, int r, int i) {
        int refusal = refusalOf(those, r);
        if (refusal != 0) {
            return refusal;
        }
        return those.reaches(r, i, 1) ? 0 : find(BEYOND);
    }

    private int tell(int v) {
        told = v;
        return 1;
    }

    private static boolean isIn(int bits, int i) {
        return (bits >> i & 1) == 1;
    }

    /** The lowest number whose bit is set; NONE without bits. */
    private static int firstOf(int bits) {
        return bits == 0 ? NONE : Integer.bitCount((bits & -bits) - 1);
    }

    /** The number at a place among those whose bits are set; NONE if there are not so many. */
    private static int nthOf(int bits, int n) {
        int rest = bits;
        for (int k = 0; k < n && rest != 0; k++) {
            rest &= rest - 1;
        }
        return firstOf(rest);
    }

    private int deedFact(int i, int what) {
        switch (what) {
            case 0:
                return plan.kinds[i];
            case 1:
                return plan.lights[i];
            case 2:
                return plan.needs[i];
            case 3:
                return isIn(course.done, i) ? 1 : 0;
            default:
                return plan.needsInTheEnd[i];
        }
    }

    private int hourFact(int h, int what) {
        switch (what) {
            case 0:
                return plan.times[h];
            case 1:
                return plan.isNight(h) ? 1 : 0;
            case 2:
                return course.comingDay(h);
            case 3:
                return course.whereIs(h);
            default:
                return course.deedIn[h];
        }
    }

    private int hoursFor(int i) {
        int shelf = course.shelfBits();
        int hours = 0;
        for (int h = 0; h < plan.hours; h++) {
            hours += isIn(shelf, h) && course.hindrance(i, h) == 0 ? 1 : 0;
        }
        return hours;
    }

    private boolean areAllPairs(int[] pairs, int size) {
        for (int p = 0; p + 1 < size; p += 2) {
            int deed = pairs[p + 1];
            if (!plan.hasHour(pairs[p]) || deed != NONE && !plan.hasDeed(deed)) {
                return false;
            }
        }
        return true;
    }

    private int diaryRefusal(int r) {
        int refusal = refusalInHouse(r);
        if (refusal != 0) {
            return refusal;
        }
        if (rows.sizes[r] > HOURS) {
            return find(SIZE);
        }
        for (int p = 0; p < rows.sizes[r]; p++) {
            int time = rows.cells[r][p];
            if (time < 0 || time >= HOURS_OF_DAY) {
                return find(UNLIKE);
            }
        }
        return 0;
    }

    /** How many HOURS of the post are left for place p of a diary, behind the places ahead; 0 at least. */
    private int hoursLeftFor(int[] times, int p) {
        int left = Integer.bitCount(plan.hoursAt(times[p]));
        for (int q = 0; q < p; q++) {
            left -= times[q] == times[p] ? 1 : 0;
        }
        return Math.max(0, left);
    }

    private void liveByLot(int lot) {
        int shelf = course.shelfBits();
        int hours = Integer.bitCount(shelf);
        if (hours == 0) {
            course.take(DAY_STEP, NONE, NONE);
            return;
        }
        int h = nthOf(shelf, lot % hours);
        int deeds = course.deedsFor(h);
        int choices = Integer.bitCount(deeds) + 1;
        course.take(OPEN_STEP, h, nthOf(deeds, lot / LOT_CUT % choices));
    }

    private int countOf(int what) {
        switch (what) {
            case 0:
                return plan.deeds;
            case 1:
                return plan.hours;
            case 2:
                return course.steps;
            case 3:
                return Integer.bitCount(course.done);
            case 4:
                return Integer.bitCount(course.opened);
            case 5:
                return plan.meals();
            case 6:
                return rows.present();
            case 7:
                return texts.present();
            default:
                return keptHouses();
        }
    }

    private int keptHouses() {
        int houses = 0;
        for (int k = 0; k < PLACES; k++) {
            houses += isKept[k] ? 1 : 0;
        }
        return houses;
    }

    /** Rows of numbers, each of which may be missing. */
    private static final class Rows {
        final int[] sizes;
        final int[][] cells;

        Rows(int many, int longest) {
            sizes = new int[many];
            cells = new int[many][longest];
            Arrays.fill(sizes, MISSING);
        }

        boolean knows(int r) {
            return r >= 0 && r < sizes.length;
        }

        boolean isThere(int r) {
            return sizes[r] != MISSING;
        }

        boolean reaches(int r, int i, int n) {
            return i >= 0 && (long) i + n <= sizes[r];
        }

        void begin(int r, int n, int v) {
            sizes[r] = n;
            Arrays.fill(cells[r], v);
        }

        int exchange(int r, int i, int v) {
            int was = cells[r][i];
            cells[r][i] = v;
            return was;
        }

        long sum(int r) {
            long sum = 0;
            for (int i = 0; i < sizes[r]; i++) {
                sum += cells[r][i];
            }
            return sum;
        }

        int present() {
            int there = 0;
            for (int r = 0; r < sizes.length; r++) {
                there += isThere(r) ? 1 : 0;
            }
            return there;
        }

        long digestOnFrom(long start) {
            long h = start;
            for (int r = 0; r < sizes.length; r++) {
                h = 31 * h + sizes[r];
                for (int i = 0; i < sizes[r]; i++) {
                    h = 31 * h + cells[r][i];
                }
            }
            return h;
        }
    }

    /** The DEEDS and HOURS that a TEXT tells: what no STEP changes. */
    private static final class Plan {
        int deeds = 0;
        int hours = 0;
        final int[] kinds = new int[DEEDS];
        final int[] lights = new int[DEEDS];
        final int[] needs = new int[DEEDS];
        final int[] needsInTheEnd = new int[DEEDS];
        final int[] times = new int[HOURS];
        final int[] sendingDays = new int[HOURS];
        final int[] routes = new int[HOURS];
        /** Of each DEED the sets of DONE DEEDS (a bit each) behind which it may come, but for the HOUR. */
        final long[] readyBehind = new long[DEEDS];
        /** Of each DEED the HOURS (bits) whose time of the day suits it. */
        final int[] suitedHours = new int[DEEDS];

        void clear() {
            deeds = 0;
            hours = 0;
        }

        /** Takes another one's DEEDS and HOURS, and works out what orders look up often. */
        void become(Plan other) {
            clear();
            for (int i = 0; i < other.deeds; i++) {
                addDeed(other.kinds[i], other.lights[i], other.needs[i]);
            }
            for (int h = 0; h < other.hours; h++) {
                addHour(other.times[h], other.sendingDays[h], other.routes[h]);
            }
            for (int i = 0; i < deeds; i++) {
                readyBehind[i] = setsReadyFor(i);
                suitedHours[i] = hoursSuiting(i);
            }
        }

        void addDeed(int kind, int light, int needed) {
            if (deeds >= DEEDS) {
                return;
            }
            int i = deeds;
            deeds++;
            kinds[i] = kind;
            lights[i] = light;
            needs[i] = needed;
            needsInTheEnd[i] = needed;
            for (int k = 0; k < i; k++) {
                needsInTheEnd[i] |= isIn(needed, k) ? needsInTheEnd[k] : 0;
            }
        }

        void addHour(int time, int sent, int route) {
            if (hours >= HOURS) {
                return;
            }
            times[hours] = time;
            sendingDays[hours] = sent;
            routes[hours] = route;
            hours++;
        }

        private long setsReadyFor(int i) {
            long sets = 0;
            for (int done = 0; done < DEED_SETS; done++) {
                boolean isReady = !isIn(done, i) && (needs[i] & ~done) == 0 && hasCompany(i, done);
                sets |= isReady ? 1L << done : 0;
            }
            return sets;
        }

        private int hoursSuiting(int i) {
            int bits = 0;
            for (int h = 0; h < hours; h++) {
                bits |= hasLight(i, h) && isTimeOf(i, h) ? 1 << h : 0;
            }
            return bits;
        }

        boolean hasDeed(int i) {
            return i >= 0 && i < deeds;
        }

        boolean hasHour(int h) {
            return h >= 0 && h < hours;
        }

        boolean isNight(int h) {
            return times[h] < 6 || times[h] > 17;
        }

        boolean isOfKind(int i, int kind) {
            int own = kinds[i];
            return own == kind || own == FEAST && kind == MEAL || own == NAP && kind == SLEEP;
        }

        boolean hasLight(int i, int h) {
            return lights[i] == EITHER_LIGHT || isNight(h) == (lights[i] != DAY_LIGHT);
        }

        boolean isTimeOf(int i, int h) {
            return kinds[i] != SLEEP || times[h] >= 20 || times[h] <= 5;
        }

        boolean isHungry(int i, int sinceMeal) {
            return !isOfKind(i, MEAL) || sinceMeal >= MEAL_GAP;
        }

        boolean hasCompany(int i, int done) {
            return kinds[i] != FEAST || company(i, done) >= FEAST_COMPANY;
        }

        int company(int i, int done) {
            return Integer.bitCount(done & ~needs[i]);
        }

        /** The first reason why a DEED CAN'T BE done in an HOUR; 0: it can. */
        int hindrance(int i, int h, int done, int sinceMeal) {
            if (isIn(done, i)) {
                return IS_DONE;
            }
            if ((needs[i] & ~done) != 0) {
                return LACKS_NEED;
            }
            if (!hasLight(i, h)) {
                return LACKS_LIGHT;
            }
            boolean fits = isTimeOf(i, h) && isHungry(i, sinceMeal) && hasCompany(i, done);
            return fits ? 0 : LACKS_KIND;
        }

        /** The DEEDS (bits) among whose needs, told for each, a DEED is. */
        int neededBy(int i, int[] needsOfEach) {
            int by = 0;
            for (int k = 0; k < deeds && k < needsOfEach.length; k++) {
                by |= isIn(needsOfEach[k], i) ? 1 << k : 0;
            }
            return by;
        }

        int hoursOfLightFor(int i) {
            int lit = 0;
            for (int h = 0; h < hours; h++) {
                lit += hasLight(i, h) ? 1 : 0;
            }
            return lit;
        }

        int hoursAt(int time) {
            int bits = 0;
            for (int h = 0; h < hours; h++) {
                bits |= times[h] == time ? 1 << h : 0;
            }
            return bits;
        }

        int meals() {
            int meals = 0;
            for (int i = 0; i < deeds; i++) {
                meals += isOfKind(i, MEAL) ? 1 : 0;
            }
            return meals;
        }
    }

    /** Reads a TEXT as a HOUSE, place by place. */
    private static final class Reading {
        final Plan draft = new Plan();
        private int[] signs = new int[0];
        private int end = 0;
        private int place = 0;

        /** Where the TEXT can't go on as a HOUSE, or NONE: then the draft is that HOUSE. */
        int firstFault(int[] text, int size) {
            signs = text;
            end = Math.min(size, text.length);
            place = 0;
            draft.clear();
            skipBlanks();
            for (int item = 0; item < TEXT_SIZE && place < end; item++) {
                if (!readItem()) {
                    return place;
                }
                skipBlanks();
            }
            return draft.deeds == 0 ? place : NONE;
        }

        private void skipBlanks() {
            while (place < end && signs[place] == BLANK) {
                place++;
            }
        }

        private boolean readItem() {
            if (nextBetween('h', 'h') == 0) {
                return draft.deeds > 0 && draft.hours < HOURS && readHour();
            }
            return draft.hours == 0 && draft.deeds < DEEDS && readDeed();
        }

        private boolean readDeed() {
            int kind = take(nextAmong(KIND_SIGNS));
            int light = kind < 0 ? NONE : take(nextAmong(LIGHT_SIGNS));
            int many = light < 0 ? NONE : take(nextBetween('0', '3'));
            if (many < 0) {
                return false;
            }
            int needed = 0;
            for (int k = 0; k < many; k++) {
                int next = nextBetween('0', '9');
                if (!draft.hasDeed(next) || isIn(needed, next)) {
                    return false;
                }
                needed |= 1 << take(next);
            }
            draft.addDeed(kind, light, needed);
            return true;
        }

        private boolean readHour() {
            take(0);
            int time = take(nextBetween('A', 'X'));
            int sent = time < 0 ? NONE : take(nextBetween('0', '9'));
            int route = sent < 0 ? NONE : take(nextBetween('0', '2'));
            if (route < 0) {
                return false;
            }
            draft.addHour(time, sent, route);
            return true;
        }

        /** Goes on by a place, if what was found there is no NONE. */
        private int take(int found) {
            place += found < 0 ? 0 : 1;
            return found;
        }

        private int nextBetween(int first, int last) {
            if (place >= end || signs[place] < first || signs[place] > last) {
                return NONE;
            }
            return signs[place] - first;
        }

        private int nextAmong(int[] choices) {
            for (int k = 0; k < choices.length && place < end; k++) {
                if (signs[place] == choices[k]) {
                    return k;
                }
            }
            return NONE;
        }
    }

    /** How a HOUSE goes: ROUTES, STEPS, and what has come of them. */
    private static final class Course {
        final Plan plan;
        final int[] routeDays = new int[ROUTES];
        final int[] stepKinds = new int[STEPS];
        final int[] stepHours = new int[STEPS];
        final int[] stepDeeds = new int[STEPS];
        final int[] deedIn = new int[HOURS];
        int steps = 0;
        int today = 0;
        int opened = 0;
        int sentBack = 0;
        int done = 0;
        int sinceMeal = 0;

        Course(Plan plan) {
            this.plan = plan;
            System.arraycopy(FIRST_ROUTES, 0, routeDays, 0, ROUTES);
            Arrays.fill(deedIn, NONE);
        }

        void begin() {
            System.arraycopy(FIRST_ROUTES, 0, routeDays, 0, ROUTES);
            rewind();
        }

        private void rewind() {
            Arrays.fill(deedIn, NONE);
            steps = 0;
            today = 0;
            opened = 0;
            sentBack = 0;
            done = 0;
            sinceMeal = 0;
        }

        void become(Course other) {
            System.arraycopy(other.routeDays, 0, routeDays, 0, ROUTES);
            System.arraycopy(other.stepKinds, 0, stepKinds, 0, STEPS);
            System.arraycopy(other.stepHours, 0, stepHours, 0, STEPS);
            System.arraycopy(other.stepDeeds, 0, stepDeeds, 0, STEPS);
            System.arraycopy(other.deedIn, 0, deedIn, 0, HOURS);
            steps = other.steps;
            today = other.today;
            opened = other.opened;
            sentBack = other.sentBack;
            done = other.done;
            sinceMeal = other.sinceMeal;
        }

        boolean isFull() {
            return steps >= STEPS;
        }

        void take(int kind, int h, int deed) {
            if (isFull()) {
                return;
            }
            stepKinds[steps] = kind;
            stepHours[steps] = h;
            stepDeeds[steps] = deed;
            steps++;
            if (kind == DAY_STEP) {
                today++;
            } else if (kind == SEND_STEP) {
                sentBack |= 1 << h;
            } else {
                live(h, deed);
            }
        }

        private void live(int h, int deed) {
            opened |= 1 << h;
            sinceMeal++;
            if (!plan.hasDeed(deed) || !plan.hasHour(h)) {
                return;
            }
            deedIn[h] = deed;
            done |= 1 << deed;
            if (plan.isOfKind(deed, MEAL)) {
                sinceMeal = 0;
            }
        }

        /** Takes the STEPS ahead of number n once more, from the first DAY on: how many are left out. */
        int goBackTo(int n) {
            int undone = steps - n;
            rewind();
            for (int s = 0; s < n && s < STEPS; s++) {
                take(stepKinds[s], stepHours[s], stepDeeds[s]);
            }
            return undone;
        }

        int comingDay(int h) {
            return plan.sendingDays[h] + routeDays[plan.routes[h]];
        }

        int comeBits(int day) {
            int come = 0;
            for (int h = 0; h < plan.hours; h++) {
                come |= comingDay(h) <= day ? 1 << h : 0;
            }
            return come;
        }

        int shelfBits() {
            return comeBits(today) & unopenedBits();
        }

        /** HOURS of the SHELF and on their way. */
        int unopenedBits() {
            return (1 << plan.hours) - 1 & ~(opened | sentBack);
        }

        /** The DAY, today or later, by which all of these HOURS have COME. */
        int dayOfAll(int hours) {
            int last = today;
            for (int h = 0; h < plan.hours; h++) {
                last = isIn(hours, h) ? Math.max(last, comingDay(h)) : last;
            }
            return last;
        }

        int whereIs(int h) {
            if (isIn(opened, h)) {
                return OPENED;
            }
            if (isIn(sentBack, h)) {
                return SENT_BACK;
            }
            return comingDay(h) <= today ? ON_SHELF : ON_ITS_WAY;
        }

        int hindrance(int i, int h) {
            return plan.hindrance(i, h, done, sinceMeal);
        }

        int deedsFor(int h) {
            int deeds = 0;
            for (int i = 0; i < plan.deeds; i++) {
                deeds |= hindrance(i, h) == 0 ? 1 << i : 0;
            }
            return deeds;
        }
    }

    /**
     * Orders tried aside. A state is the set of HOURS opened in the order, the HOURS since the last
     * MEAL (more than MEAL_GAP are as good as MEAL_GAP), and the set of DEEDS that are DONE. All
     * states that share the first two are held in one long, a bit for each set of DEEDS, so that a
     * DEED is done in all of them at once by a shift.
     */
    private static final class Orders {
        private final Plan plan;
        private final long[] reached = new long[HOUR_SETS * GAPS];
        private final long[] winning = new long[HOUR_SETS * GAPS];
        /** One order that is followed: the HOURS that it may open, and where it is. */
        private int pool = 0;
        private int hoursOpened = 0;
        private int gap = 0;
        int done = 0;

        Orders(Plan plan) {
            this.plan = plan;
        }

        void start(Course course, int hours) {
            pool = hours;
            hoursOpened = 0;
            gap = Math.min(course.sinceMeal, MEAL_GAP);
            done = course.done;
        }

        /** How many pairs of an order can be lived, one behind the other. */
        int follow(int[] pairs, int many) {
            int lived = 0;
            while (lived < many && fits(pairs[2 * lived], pairs[2 * lived + 1])) {
                live(pairs[2 * lived], pairs[2 * lived + 1]);
                lived++;
            }
            return lived;
        }

        private boolean fits(int h, int deed) {
            return isIn(pool & ~hoursOpened, h)
                && (deed == NONE || plan.hindrance(deed, h, done, gap) == 0);
        }

        private void live(int h, int deed) {
            hoursOpened |= 1 << h;
            gap = gapBehind(gap, deed);
            done |= deedBit(deed);
        }

        private int gapBehind(int before, int deed) {
            boolean isMeal = deed != NONE && plan.isOfKind(deed, MEAL);
            return isMeal ? 0 : Math.min(before + 1, MEAL_GAP);
        }

        private static int deedBit(int deed) {
            return deed == NONE ? 0 : 1 << deed;
        }

        /** Finds all states that orders of these HOURS can reach. */
        void explore(Course course, int hours) {
            start(course, hours);
            Arrays.fill(reached, 0L);
            reached[gap] = 1L << done;
            for (int set = 0; set < HOUR_SETS; set++) {
                for (int g = 0; g < GAPS; g++) {
                    if (reached[set * GAPS + g] != 0) {
                        spread(set, g);
                    }
                }
            }
        }

        private void spread(int set, int g) {
            long from = reached[set * GAPS + g];
            pass(from, set, gapBehind(g, NONE), pool);
            for (int i = 0; i < plan.deeds; i++) {
                long ready = from & plan.readyBehind[i];
                if (ready != 0 && plan.isHungry(i, g)) {
                    pass(ready << deedBit(i), set, gapBehind(g, i), pool & plan.suitedHours[i]);
                }
            }
        }

        /** These sets of DEEDS are reached by opening one more of these HOURS. */
        private void pass(long sets, int set, int g, int hours) {
            int left = hours & ~set;
            for (int k = 0; k < HOURS && left != 0; k++) {
                int next = left & -left;
                left -= next;
                reached[(set | next) * GAPS + g] |= sets;
            }
        }

        /** All sets of DEEDS that can be DONE by opening just these HOURS. */
        private long doneBy(int set) {
            long sets = 0;
            for (int g = 0; g < GAPS; g++) {
                sets |= reached[set * GAPS + g];
            }
            return sets;
        }

        boolean does(int i, int set) {
            return (doneBy(set) & SETS_WITH[i]) != 0;
        }

        private static int largestOf(long sets) {
            int size = DEEDS;
            while (size > 0 && (sets & SETS_OF[size]) == 0) {
                size--;
            }
            return size;
        }

        /** The most DEEDS that are DONE while these HOURS stay shut. */
        int mostDone(int shut) {
            long sets = 0;
            for (int set = 0; set < HOUR_SETS; set++) {
                sets |= (set & shut) == 0 ? doneBy(set) : 0;
            }
            return largestOf(sets);
        }

        /** The fewest HOURS in which so many DEEDS come to be DONE. */
        int fewestHoursFor(int many) {
            int fewest = HOURS;
            for (int set = 0; set < HOUR_SETS; set++) {
                int hours = Integer.bitCount(set);
                if (hours < fewest && (doneBy(set) & SETS_OF[many]) != 0) {
                    fewest = hours;
                }
            }
            return fewest;
        }

        int fewestHoursTo(int i) {
            int fewest = NONE;
            for (int set = 0; set < HOUR_SETS; set++) {
                if (does(i, set)) {
                    int hours = Integer.bitCount(set);
                    fewest = fewest == NONE ? hours : Math.min(fewest, hours);
                }
            }
            return fewest;
        }

        /** Of how many sets of HOURS some order does the DEED; what is left over is opened for none. */
        int setsEnoughFor(int i) {
            int many = 0;
            for (int set = 0; set < HOUR_SETS; set++) {
                many += does(i, set) ? 1 : 0;
            }
            return many;
        }

        /** Writes the first order of so many pairs at whose end the DEED is DONE, behind explore(). */
        void writeFirst(int i, int many, int[] pairs) {
            findWinning(i, many);
            for (int p = 0; p < many && 2 * p + 1 < pairs.length; p++) {
                writeFirstPair(2 * p, pairs);
            }
        }

        private void writeFirstPair(int place, int[] pairs) {
            for (int h = 0; h < plan.hours; h++) {
                for (int choice = -1; choice < plan.deeds; choice++) {
                    int deed = choice < 0 ? NONE : choice;
                    if (fits(h, deed) && isWinning(h, deed)) {
                        pairs[place] = h;
                        pairs[place + 1] = deed;
                        live(h, deed);
                        return;
                    }
                }
            }
        }

        private boolean isWinning(int h, int deed) {
            int to = (hoursOpened | 1 << h) * GAPS + gapBehind(gap, deed);
            return (winning[to] >>> (done | deedBit(deed)) & 1) == 1;
        }

        /** Marks the reached states from which an order of so many pairs can end with the DEED DONE. */
        private void findWinning(int i, int many) {
            for (int set = HOUR_SETS - 1; set >= 0; set--) {
                int hours = Integer.bitCount(set);
                for (int g = 0; g < GAPS; g++) {
                    int state = set * GAPS + g;
                    if (hours > many || reached[state] == 0) {
                        winning[state] = 0;
                    } else {
                        winning[state] = hours == many ? SETS_WITH[i] : winningAhead(set, g);
                    }
                }
            }
        }

        private long winningAhead(int set, int g) {
            long sets = winningBy(set, gapBehind(g, NONE), pool);
            for (int i = 0; i < plan.deeds; i++) {
                if (plan.isHungry(i, g)) {
                    long with = winningBy(set, gapBehind(g, i), pool & plan.suitedHours[i]);
                    sets |= with >>> deedBit(i) & plan.readyBehind[i];
                }
            }
            return sets;
        }

        /** The winning sets of DEEDS behind opening one more of these HOURS. */
        private long winningBy(int set, int g, int hours) {
            long sets = 0;
            int left = hours & ~set;
            for (int k = 0; k < HOURS && left != 0; k++) {
                int next = left & -left;
                left -= next;
                sets |= winning[(set | next) * GAPS + g];
            }
            return sets;
        }
    }
}
