/**
 * Only those who've never met: people on two shores, and a boat that takes only such as don't know one another.
 * What each public call promises stands in DOC.md.
 */
public final class OnlyStrangers {
    public static final int NONE = -1, BAD = -2, STATE = -3, FULL = -4;
    public static final long NO = Long.MIN_VALUE;

    /** The answer where nobody, no group, no row or no number fits. */
    private static final int NOTHING_FITS = -5;
    private static final int FAULT_BASE = -10;
    private static final int NOTHING = -11, CAST = -12, PLACE = -13, SIZE = -14;
    /** Where a worth is answered, the refusals stand far below every worth. */
    private static final int FAR_NONE = -10001, FAR_BAD = -10002, FAR_STATE = -10003;

    private static final int PEOPLE_MOST = 5, PAIRS = 10, GROUPS = 32, PAIR_SETS = 1024;
    private static final int TEXT_MOST = 100, CLAUSES_MOST = 10, PARISHES_MOST = 6, PLANS_MOST = 10;
    private static final int CROSSINGS_MOST = 9999, RUN_MOST = 40, HOME_MOST = 30, BOOK_MOST = 12, ROW_PARTS = 3;
    private static final int STRANGERS_MOST = 4, KINDS = 7, ACTS = 3, TRACE_KEPT = 20;
    private static final int TAPES = 6, TAPE_MOST = 60, BYTES = 0, SHORTS = 1, INTS = 2, BOOLEANS = 4, NO_SORT = -1;
    /** The least number that every count of groups (1 to 31) divides. */
    private static final long LOTS = 72201776446800L;

    /** The pairs within a group, as bits: the pair of a lesser a and a greater b is bit b * (b - 1) / 2 + a. */
    private static final int[] PAIRS_OF = {
        0, 0, 0, 1, 0, 2, 4, 7, 0, 8, 16, 25, 32, 42, 52, 63,
        0, 64, 128, 193, 256, 322, 388, 455, 512, 584, 656, 729, 800, 874, 948, 1023};
    /** The groups (bit g for group g) that share nobody with a group. */
    private static final int[] APART = {
        0xffffffff, 0x55555555, 0x33333333, 0x11111111, 0x0f0f0f0f, 0x05050505, 0x03030303, 0x01010101,
        0x00ff00ff, 0x00550055, 0x00330033, 0x00110011, 0x000f000f, 0x00050005, 0x00030003, 0x00010001,
        0x0000ffff, 0x00005555, 0x00003333, 0x00001111, 0x00000f0f, 0x00000505, 0x00000303, 0x00000101,
        0x000000ff, 0x00000055, 0x00000033, 0x00000011, 0x0000000f, 0x00000005, 0x00000003, 0x00000001};
    /** The kind above each kind. */
    private static final int[] KIND_ABOVE = {-1, 0, 0, 0, 1, 2, 3};

    private final Scene now = new Scene();
    private final Scene kept = new Scene();
    private boolean imaged = false;
    /** What is only tried out goes on in these, one for each level of the trying. */
    private final Scene[] ahead = {new Scene(), new Scene(), new Scene()};
    private final Search search = new Search();
    private final Reader reader = new Reader();
    /** Holds as long as no parish does. */
    private final Parish bare = new Parish();
    private final Parish[] parishes = new Parish[PARISHES_MOST];
    private int parishCount = 0;
    private final Plan[] plans = new Plan[PLANS_MOST];
    private int planCount = 0;
    /** How many bodies ran in the latest act, and behind that the numbers of the first of them. */
    private final int[] bodies = new int[1 + TRACE_KEPT];
    private final long[][] items = new long[TAPES][TAPE_MOST];
    private final int[] sorts = new int[TAPES];
    private final int[] sizes = new int[TAPES];

    public OnlyStrangers() {
        for (int p = 0; p < parishes.length; p++) {
            parishes[p] = new Parish();
        }
        for (int t = 0; t < sorts.length; t++) {
            sorts[t] = NO_SORT;
        }
    }

    // ---- people, parishes

    public int person(int shore, int wants) {
        if (!isShore(shore) || !isShore(wants)) {
            return NONE;
        }
        if (now.people >= PEOPLE_MOST) {
            return FULL;
        }
        int number = now.people;
        now.people = number + 1;
        now.across = withBit(now.across, number, shore);
        now.wanting = withBit(now.wanting, number, wants);
        return number;
    }

    public int of(int person, int what) {
        if (!isPerson(person)) {
            return NONE;
        }
        switch (what) {
            case 0: return now.across >> person & 1;
            case 1: return now.wanting >> person & 1;
            case 2: return acquaintances(person);
            default: return NONE;
        }
    }

    public int set(int person, int what, int shore) {
        if (!isPerson(person) || what < 0 || what > 1 || !isShore(shore)) {
            return NONE;
        }
        int bits = what == 0 ? now.across : now.wanting;
        int changed = withBit(bits, person, shore);
        if (what == 0) {
            now.across = changed;
        } else {
            now.wanting = changed;
        }
        return bits >> person & 1;
    }

    public int meet(int a, int b, boolean is) {
        if (!isPerson(a) || !isPerson(b)) {
            return NONE;
        }
        if (a == b) {
            return BAD;
        }
        int pair = pairOf(a, b);
        int before = now.known(rules().forget, 0) >> pair & 1;
        if (is) {
            now.meetNow(1 << pair);
        } else {
            now.estrange(1 << pair);
        }
        return before;
    }

    public int boat(int shore) {
        if (!isShore(shore)) {
            return NONE;
        }
        int before = now.boat;
        now.boat = shore;
        return before;
    }

    public int feed(int sign) {
        if (sign < 0 || sign > 127) {
            return BAD;
        }
        return reader.add(sign) ? reader.length : FULL;
    }

    public int parish() {
        if (parishCount >= parishes.length) {
            return FULL;
        }
        int fault = reader.readInto(parishes[parishCount]);
        if (fault >= 0) {
            return FAULT_BASE - fault;
        }
        now.parish = parishCount;
        parishCount++;
        return now.parish;
    }

    public int told(int what) {
        Parish rules = rules();
        switch (what) {
            case 0: return rules.holds;
            case 1: return rules.least;
            case 2: return rules.forget;
            case 3: return now.boat;
            case 4: return now.crossings;
            case 5: return Integer.bitCount(now.known(rules.forget, 0));
            default: return NONE;
        }
    }

    public int pair(int a, int b, int what) {
        if (!isPerson(a) || !isPerson(b) || what < 0 || what > 2) {
            return NONE;
        }
        if (a == b) {
            return BAD;
        }
        int pair = pairOf(a, b);
        switch (what) {
            case 0: return now.known(rules().forget, 0) >> pair & 1;
            case 1: return rules().barred >> pair & 1;
            default: return now.since(pair);
        }
    }

    // ---- plans, crossings

    public int plan(int kind, int v) {
        if (kind < 0 || kind >= KINDS) {
            return NONE;
        }
        if (v < 0 || v > 9) {
            return BAD;
        }
        if (planCount >= plans.length) {
            return FULL;
        }
        plans[planCount] = newPlan(kind, v, planCount);
        planCount++;
        return planCount - 1;
    }

    public int by(int plan, int what) {
        Plan asked = planAt(plan);
        if (asked == null) {
            return NONE;
        }
        switch (what) {
            case 0: return asked.kind;
            case 1: return asked.v;
            case 2: return asked.pick(openGroups(now), now, rules(), search);
            default: return NONE;
        }
    }

    public int row(int plan, int part, int group) {
        Plan asked = planAt(plan);
        if (asked == null || part < 0 || part >= ROW_PARTS) {
            return NONE;
        }
        if (group < 0 || group >= GROUPS) {
            return BAD;
        }
        return asked.retell(part, group);
    }

    public int group(int group, int what) {
        if (what < 0 || what > 1) {
            return FAR_NONE;
        }
        if (!isGroup(group)) {
            return FAR_BAD;
        }
        return what == 0 ? openGroups(now) >> group & 1 : rules().worthOf(group, now);
    }

    public int groups() {
        return Integer.bitCount(openGroups(now));
    }

    public int cross(int group) {
        if (!isGroup(group)) {
            return FAR_BAD;
        }
        if ((openGroups(now) >> group & 1) == 0 || now.crossings >= CROSSINGS_MOST) {
            return FAR_STATE;
        }
        int worth = rules().worthOf(group, now);
        now.go(group);
        return worth;
    }

    public int run(int plan, int n, int what) {
        Plan asked = planAt(plan);
        if (asked == null || what < 0 || what > 3) {
            return FAR_NONE;
        }
        if (n < 0 || n > RUN_MOST) {
            return FAR_BAD;
        }
        int worth = sail(asked, n);
        Scene end = ahead[0];
        switch (what) {
            case 0: return end.crossings - now.crossings;
            case 1: return end.across;
            case 2: return worth;
            default: return end.boat;
        }
    }

    // ---- what can be

    public int longest() {
        return search.longestFrom(now, closedPairs(now), rules());
    }

    public int home(int what) {
        if (what < 0 || what > 1) {
            return NONE;
        }
        search.seekHome(now, closedPairs(now), rules());
        return what == 0 ? search.homeCrossings : search.homeFirst;
    }

    public int left() {
        return search.leftOut(now, closedPairs(now), rules());
    }

    public int circle() {
        return biggestCircle(now.everybody());
    }

    public int strangers() {
        Parish rules = rules();
        if (rules.holds < 1 || rules.holds < rules.least) {
            return NOTHING_FITS;
        }
        int wanted = rules.holds - Integer.bitCount(biggestCircle(now.here()));
        return wanted > STRANGERS_MOST ? NOTHING_FITS : Math.max(0, wanted);
    }

    public int price(int a, int b) {
        if (!isPerson(a) || !isPerson(b)) {
            return NONE;
        }
        if (a == b) {
            return BAD;
        }
        int closed = closedPairs(now);
        int strangers = search.longestFrom(now, closed, rules());
        return strangers - search.longestFrom(now, closed | 1 << pairOf(a, b), rules());
    }

    // ---- lots, books

    public long likely(int n, int part) {
        if (n < 1 || n > 3 || part < 0 || part > 1) {
            return NO;
        }
        return byLot(n, part, true);
    }

    public long wanted(int n, int part) {
        if (n < 0 || n > 2 || part < 0 || part > 1) {
            return NO;
        }
        return byLot(n, part, false);
    }

    public int book(int group) {
        if (group == -1) {
            now.booked = 0;
            return 0;
        }
        if (group < 1 || group >= GROUPS) {
            return BAD;
        }
        if (now.booked >= now.book.length) {
            return FULL;
        }
        now.book[now.booked] = group;
        now.booked++;
        return now.booked;
    }

    public int readBook() {
        Scene tried = ahead[0];
        tried.follow(now);
        for (int k = 0; k < now.booked && k < now.book.length; k++) {
            int group = now.book[k];
            if ((openGroups(tried) >> group & 1) == 0) {
                return k;
            }
            tried.go(group);
        }
        return now.booked;
    }

    // ---- judging, the image, acts, tapes

    public int judge(int tape, int i, int plan, int n) {
        Plan asked = planAt(plan);
        if (!isTape(tape) || asked == null) {
            return NONE;
        }
        if (n < 0 || n > RUN_MOST) {
            return BAD;
        }
        if (sorts[tape] != NO_SORT && sorts[tape] != BOOLEANS) {
            return CAST;
        }
        sail(asked, n);
        for (int person = 0; person < now.people; person++) {
            if (i < 0 || !isItem(tape, (long) i + person)) {
                return 100 + person;
            }
            if (items[tape][i + person] != (ahead[0].across >> person & 1)) {
                return person;
            }
        }
        return NOTHING_FITS;
    }

    public int image() {
        kept.keep(now);
        imaged = true;
        for (int p = 0; p < planCount && p < plans.length; p++) {
            if (plans[p] != null) {
                plans[p].keepRow();
            }
        }
        return now.people;
    }

    public int undo() {
        if (!imaged) {
            return STATE;
        }
        now.keep(kept);
        for (int p = 0; p < planCount && p < plans.length; p++) {
            if (plans[p] != null) {
                plans[p].giveRowBack();
            }
        }
        return now.people;
    }

    public int act(int plan, int act, int x) {
        bodies[0] = 0;
        Plan asked = planAt(plan);
        if (asked == null || act < 0 || act >= ACTS) {
            return 0;
        }
        switch (act) {
            case 0: return asked.takes(x);
            case 1: return asked.rows(x);
            default: return asked.tells(x);
        }
    }

    public int trace(int i) {
        if (i < 0 || i >= bodies[0] || i >= TRACE_KEPT) {
            return NONE;
        }
        return bodies[1 + i];
    }

    public int taken(int plan, int k) {
        if (k < 0 || k >= KINDS) {
            return BAD;
        }
        Plan asked = planAt(plan);
        if (asked == null) {
            return NOTHING;
        }
        return isUnder(asked.kind, k) ? asked.kind : CAST;
    }

    public int count(int what) {
        switch (what) {
            case 0: return now.people;
            case 1: return parishCount;
            case 2: return planCount;
            case 3: return now.booked;
            case 4: return reader.length;
            case 5: return bodies[0];
            default: return BAD;
        }
    }

    public int tape(int tape, int sort, int n) {
        if (!isTape(tape)) {
            return NONE;
        }
        if (sort < NO_SORT || sort > BOOLEANS || (sort != NO_SORT && n > TAPE_MOST)) {
            return BAD;
        }
        if (sort != NO_SORT && n < 0) {
            return SIZE;
        }
        sorts[tape] = sort;
        sizes[tape] = sort == NO_SORT ? 0 : n;
        for (int i = 0; i < items[tape].length; i++) {
            items[tape][i] = 0;
        }
        return 1;
    }

    public int item(int tape, int i, long v) {
        if (!isTape(tape)) {
            return NONE;
        }
        if (sorts[tape] == NO_SORT) {
            return NOTHING;
        }
        if (!isItem(tape, i)) {
            return PLACE;
        }
        items[tape][i] = asSort(sorts[tape], v);
        return 1;
    }

    public long read(int tape, int i) {
        return isTape(tape) && isItem(tape, i) ? items[tape][i] : NO;
    }

    public int shift(int tape, int i, int other, int j, int n) {
        if (!isTape(tape) || !isTape(other)) {
            return NONE;
        }
        if (sorts[tape] == NO_SORT || sorts[other] == NO_SORT) {
            return NOTHING;
        }
        if (sorts[tape] != sorts[other]) {
            return CAST;
        }
        if (n < 0 || i < 0 || j < 0 || (long) i + n > sizes[tape] || (long) j + n > sizes[other]) {
            return PLACE;
        }
        System.arraycopy(items[tape], i, items[other], j, n);
        return n;
    }

    // ---- what the calls share

    private static boolean isShore(int shore) {
        return shore == 0 || shore == 1;
    }

    private boolean isPerson(int person) {
        return person >= 0 && person < now.people;
    }

    /** Whether it has bits, and only such as are there. */
    private boolean isGroup(int group) {
        return group > 0 && (group & ~now.everybody()) == 0;
    }

    private static boolean isTape(int tape) {
        return tape >= 0 && tape < TAPES;
    }

    private boolean isItem(int tape, long i) {
        return i >= 0 && i < sizes[tape] && i < items[tape].length;
    }

    private Plan planAt(int plan) {
        return plan >= 0 && plan < planCount && plan < plans.length ? plans[plan] : null;
    }

    private Parish rules() {
        return now.parish >= 0 && now.parish < parishes.length ? parishes[now.parish] : bare;
    }

    private static int withBit(int bits, int at, int bit) {
        return bits & ~(1 << at) | bit << at;
    }

    private static int pairOf(int a, int b) {
        int greater = Math.max(a, b);
        return greater * (greater - 1) / 2 + Math.min(a, b);
    }

    private static int pairsOf(int group) {
        return group >= 0 && group < PAIRS_OF.length ? PAIRS_OF[group] : 0;
    }

    private int acquaintances(int person) {
        int known = now.known(rules().forget, 0);
        int many = 0;
        for (int other = 0; other < now.people; other++) {
            if (other != person) {
                many += known >> pairOf(person, other) & 1;
            }
        }
        return many;
    }

    /** The pairs that can't be in one group now: they know one another, or are barred. */
    private int closedPairs(Scene scene) {
        Parish rules = rules();
        return scene.known(rules.forget, 0) | rules.barred;
    }

    /** The groups that may go, as bits: bit g for group g. */
    private int openGroups(Scene scene) {
        Parish rules = rules();
        int closed = closedPairs(scene);
        int here = scene.here();
        int open = 0;
        for (int group = 1; group < PAIRS_OF.length; group++) {
            if ((group & ~here) == 0 && rules.takesSize(group) && (PAIRS_OF[group] & closed) == 0) {
                open |= 1 << group;
            }
        }
        return open;
    }

    /** The most of some people of whom no two are a closed pair; of several the least as bits. */
    private int biggestCircle(int among) {
        int closed = closedPairs(now);
        int best = 0;
        for (int group = 1; group < PAIRS_OF.length; group++) {
            boolean apart = (group & ~among) == 0 && (PAIRS_OF[group] & closed) == 0;
            if (apart && Integer.bitCount(group) > Integer.bitCount(best)) {
                best = group;
            }
        }
        return best;
    }

    /** Goes on by a plan in the first scene ahead; the worth of it all. */
    private int sail(Plan plan, int n) {
        Scene tried = ahead[0];
        tried.follow(now);
        int worth = 0;
        for (int k = 0; k < n; k++) {
            int group = plan.pick(openGroups(tried), tried, rules(), search);
            if (group < 1) {
                return worth;
            }
            worth += rules().worthOf(group, tried);
            tried.go(group);
        }
        return worth;
    }

    /** One part of the fraction that is the mean of what groups by lot come to; see onAverage. */
    private long byLot(int n, int part, boolean whetherAll) {
        int open = n == 0 ? 0 : openGroups(now);
        long above = open == 0 ? ended(now, n, whetherAll) : sumOverLots(now, open, n, 0, whetherAll);
        long below = LOTS * Math.max(1, Integer.bitCount(open));
        long divisor = commonDivisor(above, below);
        if (divisor < 1) {
            return NO;
        }
        return part == 0 ? above / divisor : below / divisor;
    }

    /** What the end of a row of lots counts, times LOTS, with n crossings that did not go. */
    private static long ended(Scene scene, int n, boolean whetherAll) {
        if (whetherAll) {
            return n == 0 ? LOTS : 0;
        }
        return LOTS * scene.satisfied();
    }

    private long sumOverLots(Scene scene, int open, int n, int level, boolean whetherAll) {
        if (level < 0 || level >= ahead.length) {
            return 0;
        }
        long sum = 0;
        for (int group = 1; group < GROUPS; group++) {
            if ((open >> group & 1) != 0) {
                ahead[level].follow(scene);
                ahead[level].go(group);
                sum += onAverage(ahead[level], n - 1, level + 1, whetherAll);
            }
        }
        return sum;
    }

    /**
     * The mean, times LOTS, of what n crossings by lot come to: whether all of them go, or how many people are then
     * where they want to be. It is exact: it is asked only so deep that the sum is whole lots, which each count divides.
     */
    private long onAverage(Scene scene, int n, int level, boolean whetherAll) {
        int open = n == 0 ? 0 : openGroups(scene);
        if (open == 0) {
            return ended(scene, n, whetherAll);
        }
        if (whetherAll && n == 1) {
            return LOTS;
        }
        return sumOverLots(scene, open, n, level, whetherAll) / Math.max(1, Integer.bitCount(open));
    }

    private static long commonDivisor(long a, long b) {
        long greater = a;
        long lesser = b;
        for (int k = 0; k < 200 && lesser != 0; k++) {
            long rest = greater % lesser;
            greater = lesser;
            lesser = rest;
        }
        return greater;
    }

    private Plan newPlan(int kind, int v, int number) {
        switch (kind) {
            case 1: return new Full(kind, v, number, bodies);
            case 2: return new Need(kind, v, number, bodies);
            case 3: return new Lot(kind, v, number, bodies);
            case 4: return new Best(kind, v, number, bodies);
            case 5: return new Told(kind, v, number, bodies);
            case 6: return new Sparing(kind, v, number, bodies);
            default: return new Plan(kind, v, number, bodies);
        }
    }

    private static boolean isUnder(int kind, int above) {
        int at = kind;
        for (int k = 0; k < KINDS && at >= 0 && at < KIND_ABOVE.length; k++) {
            if (at == above) {
                return true;
            }
            at = KIND_ABOVE[at];
        }
        return false;
    }

    private static long asSort(int sort, long v) {
        switch (sort) {
            case BYTES: return (byte) v;
            case SHORTS: return (short) v;
            case INTS: return (int) v;
            case BOOLEANS: return v != 0 ? 1 : 0;
            default: return v;
        }
    }

    /** All that the image keeps but the rows of plans. A set of people is bits, a set of pairs, too. */
    private static final class Scene {
        private static final int NEVER = -1;
        private int people = 0;
        /** Who is on shore 1, and who wants it. */
        private int across = 0;
        private int wanting = 0;
        private int boat = 0;
        private int crossings = 0;
        /** How many crossings had gone when a pair met last. */
        private final int[] met = new int[PAIRS];
        private int parish = NONE;
        private final int[] book = new int[BOOK_MOST];
        private int booked = 0;

        private Scene() {
            for (int pair = 0; pair < met.length; pair++) {
                met[pair] = NEVER;
            }
        }

        /** Becomes as another one is, but for the parish and the book, which no crossing changes. */
        private void follow(Scene other) {
            people = other.people;
            across = other.across;
            wanting = other.wanting;
            boat = other.boat;
            crossings = other.crossings;
            System.arraycopy(other.met, 0, met, 0, PAIRS);
        }

        private void keep(Scene other) {
            follow(other);
            parish = other.parish;
            System.arraycopy(other.book, 0, book, 0, BOOK_MOST);
            booked = other.booked;
        }

        private int everybody() {
            return (1 << people) - 1;
        }

        /** Who is on the boat's shore. */
        private int here() {
            return (boat == 0 ? ~across : across) & everybody();
        }

        /** Who wants the shore where the boat is not. */
        private int wantingOther() {
            return (boat == 0 ? wanting : ~wanting) & everybody();
        }

        /** How many are where they want to be. */
        private int satisfied() {
            return Integer.bitCount(~(across ^ wanting) & everybody());
        }

        /** The pairs that will know one another when some crossings more have gone. */
        private int known(int forget, int later) {
            int known = 0;
            for (int pair = 0; pair < met.length; pair++) {
                if (met[pair] != NEVER && (forget == 0 || crossings + later - met[pair] < forget)) {
                    known |= 1 << pair;
                }
            }
            return known;
        }

        private int since(int pair) {
            if (pair < 0 || pair >= met.length || met[pair] == NEVER) {
                return NOTHING_FITS;
            }
            return crossings - met[pair];
        }

        private void meetNow(int pairs) {
            writeMet(pairs, crossings);
        }

        private void estrange(int pairs) {
            writeMet(pairs, NEVER);
        }

        private void writeMet(int pairs, int when) {
            for (int pair = 0; pair < met.length; pair++) {
                if ((pairs >> pair & 1) != 0) {
                    met[pair] = when;
                }
            }
        }

        /** A crossing of a group that may go. */
        private void go(int group) {
            across = boat == 0 ? across | group : across & ~group;
            boat = 1 - boat;
            crossings++;
            meetNow(pairsOf(group));
        }
    }

    /** What a text says: how many it holds, how few, how soon one forgets, who is barred, what a crossing is worth. */
    private static final class Parish {
        /** Steps below 0 take from the pile of truths; others are tests: (letter * 3 + sign) * 100 + number. */
        private static final int AND = -1, OR = -2, NOT = -3;
        private static final int LETTERS = 6, NOT_OF_IT = 99, HOUR = 60;
        private int holds = 2;
        private int least = 1;
        private int forget = 0;
        private int barred = 0;
        /** What is kept of it is the conditions of the worths, one behind the other. */
        private final int[] steps = new int[TEXT_MOST];
        private int stepCount = 0;
        private final int[] worths = new int[CLAUSES_MOST];
        private final int[] worthEnds = new int[CLAUSES_MOST];
        private int worthCount = 0;
        /** Of a, b, n, w, s, c. */
        private final int[] values = new int[LETTERS];

        private void begin() {
            holds = 2;
            least = 1;
            forget = 0;
            barred = 0;
            stepCount = 0;
            worthCount = 0;
        }

        private void addStep(int step) {
            if (stepCount < steps.length) {
                steps[stepCount] = step;
                stepCount++;
            }
        }

        private int worthStart() {
            return worthCount > 0 && worthCount <= worthEnds.length ? worthEnds[worthCount - 1] : 0;
        }

        /** The steps that came since the last worth say who is barred. That never changes: they are done with. */
        private void bar() {
            int from = worthStart();
            for (int b = 1; b < PEOPLE_MOST; b++) {
                for (int a = 0; a < b; a++) {
                    setValues(a, b, NOT_OF_IT, NOT_OF_IT, NOT_OF_IT, NOT_OF_IT);
                    if (isTrue(from, stepCount)) {
                        barred |= 1 << pairOf(a, b);
                    }
                }
            }
            stepCount = from;
        }

        /** The steps that came since the last worth say when this one holds. */
        private void addWorth(int n) {
            if (worthCount < worths.length) {
                worths[worthCount] = n;
                worthEnds[worthCount] = stepCount;
                worthCount++;
            }
        }

        /** Whether the boat takes a group of so many. */
        private boolean takesSize(int group) {
            int size = Integer.bitCount(group);
            return size >= least && size <= holds;
        }

        private int worthOf(int group, Scene scene) {
            int wantingOther = Integer.bitCount(group & scene.wantingOther());
            setValues(NOT_OF_IT, NOT_OF_IT, Integer.bitCount(group), wantingOther, scene.boat, scene.crossings % HOUR);
            int worth = 0;
            int from = 0;
            for (int k = 0; k < worthCount && k < worths.length; k++) {
                if (isTrue(from, worthEnds[k])) {
                    worth += worths[k];
                }
                from = worthEnds[k];
            }
            return worth;
        }

        private void setValues(int a, int b, int n, int w, int s, int c) {
            values[0] = a;
            values[1] = b;
            values[2] = n;
            values[3] = w;
            values[4] = s;
            values[5] = c;
        }

        /** Goes through steps with a pile of truths that are the bits of one number; the last truth left. */
        private boolean isTrue(int from, int to) {
            int pile = 0;
            for (int k = Math.max(0, from); k < to && k < steps.length; k++) {
                int step = steps[k];
                int top = pile & 1;
                if (step == NOT) {
                    pile ^= 1;
                } else if (step == AND) {
                    pile = pile >> 1 & (top | ~1);
                } else if (step == OR) {
                    pile = pile >> 1 | top;
                } else {
                    pile = pile << 1 | (passes(step) ? 1 : 0);
                }
            }
            return (pile & 1) != 0;
        }

        private boolean passes(int test) {
            int letter = test / 300;
            if (letter < 0 || letter >= values.length) {
                return false;
            }
            int value = values[letter];
            int number = test % 100;
            switch (test / 100 % 3) {
                case 0: return value < number;
                case 1: return value == number;
                default: return value > number;
            }
        }
    }

    /** The text as it is fed, and the reading of it: where the reading can't go on, there is the fault. */
    private static final class Reader {
        private static final int END = -1, DEEPEST = 4;
        private final byte[] text = new byte[TEXT_MOST];
        private int length = 0;
        private int at = 0;
        private boolean failed = false;

        private boolean add(int sign) {
            if (length >= text.length) {
                return false;
            }
            text[length] = (byte) sign;
            length++;
            return true;
        }

        /** Reads the text, which is empty then, into a parish; the place of the fault, or -1. */
        private int readInto(Parish parish) {
            at = 0;
            failed = false;
            parish.begin();
            readClause(parish);
            for (int k = 1; k < CLAUSES_MOST && !failed && sign() == ';'; k++) {
                at++;
                readClause(parish);
            }
            boolean whole = !failed && at == length;
            length = 0;
            return whole ? -1 : at;
        }

        private int sign() {
            return at >= 0 && at < length && at < text.length ? text[at] : END;
        }

        private void skip(int sign) {
            if (failed || sign() != sign) {
                failed = true;
            } else {
                at++;
            }
        }

        private void skipWord(String word) {
            for (int k = 0; k < word.length(); k++) {
                skip(word.charAt(k));
            }
        }

        /** A number of one digit or two; 0 where there is none. */
        private int readNumber() {
            int number = 0;
            int digits = 0;
            for (int k = 0; k < 2 && !failed; k++) {
                int digit = sign() - '0';
                if (digit >= 0 && digit <= 9) {
                    number = number * 10 + digit;
                    digits++;
                    at++;
                }
            }
            if (digits == 0) {
                failed = true;
            }
            return number;
        }

        private void readClause(Parish parish) {
            switch (sign()) {
                case 'h':
                    skipWord("holds ");
                    parish.holds = readNumber();
                    break;
                case 'l':
                    skipWord("least ");
                    parish.least = readNumber();
                    break;
                case 'f':
                    skipWord("forget ");
                    parish.forget = readNumber();
                    break;
                case 'b':
                    skipWord("bar ");
                    readAny(parish, 0);
                    parish.bar();
                    break;
                case 'w':
                    skipWord("worth ");
                    int n = readNumber();
                    skip(' ');
                    readAny(parish, 0);
                    parish.addWorth(n);
                    break;
                default:
                    failed = true;
            }
        }

        /** E: what stands between | , within so many ( and !. */
        private void readAny(Parish parish, int depth) {
            readAll(parish, depth);
            for (int k = 0; k < TEXT_MOST && !failed && sign() == '|'; k++) {
                at++;
                readAll(parish, depth);
                parish.addStep(Parish.OR);
            }
        }

        /** T: what stands between &. */
        private void readAll(Parish parish, int depth) {
            readOne(parish, depth);
            for (int k = 0; k < TEXT_MOST && !failed && sign() == '&'; k++) {
                at++;
                readOne(parish, depth);
                parish.addStep(Parish.AND);
            }
        }

        /** F: at the bottom of it a test. */
        private void readOne(Parish parish, int depth) {
            if (failed) {
                return;
            }
            if (depth < DEEPEST && sign() == '!') {
                at++;
                readOne(parish, depth + 1);
                parish.addStep(Parish.NOT);
            } else if (depth < DEEPEST && sign() == '(') {
                at++;
                readAny(parish, depth + 1);
                skip(')');
            } else {
                int letter = placeIn("abnwsc");
                int sign = placeIn("<=>");
                int number = readNumber();
                if (!failed) {
                    parish.addStep((letter * 3 + sign) * 100 + number);
                }
            }
        }

        /** Which of some signs is next; that is read then. */
        private int placeIn(String signs) {
            for (int k = 0; k < signs.length() && !failed; k++) {
                if (signs.charAt(k) == sign()) {
                    at++;
                    return k;
                }
            }
            failed = true;
            return 0;
        }
    }

    /**
     * What rows of groups can lead to if nobody forgets any more. The closed pairs only grow by a row then, so that
     * (closed pairs, who is on shore 1, the boat's shore) is all there is to a place in it.
     */
    private static final class Search {
        private static final int UNKNOWN = 15;
        /** The longest row for each (closed pairs, who is with the boat): four bits each. */
        private final long[] lengths = new long[PAIR_SETS * 2];
        /** The sizes of groups for which the lengths stand. */
        private int lengthsLeast = 0;
        private int lengthsHolds = 0;
        /** The groups of people that are there and of a size that may go. */
        private final int[] going = new int[GROUPS];
        private int goingCount = 0;
        /** How many sets of pairs there are among the people that are there. */
        private int pairSets = 1;
        /** For each boat's shore and closed pairs the places (bit s: just s are on shore 1) that were reached. */
        private final int[][] seen = new int[2][PAIR_SETS];
        /** The same of one step of a row alone, and of the step that comes of it, which is empty between the steps. */
        private int[] front = new int[PAIR_SETS];
        private int[] next = new int[PAIR_SETS];
        private int homeCrossings = 0;
        private int homeFirst = 0;

        private int longestFrom(Scene scene, int closed, Parish rules) {
            return longestBehind(scene.here(), scene.people, closed, rules);
        }

        /** The longest row with some people with the boat; pairs of people that are not there count as closed. */
        private int longestBehind(int here, int people, int closed, Parish rules) {
            int least = Math.max(2, Math.min(rules.least, PEOPLE_MOST + 1));
            int holds = Math.min(rules.holds, PEOPLE_MOST);
            if (least != lengthsLeast || holds != lengthsHolds) {
                lengthsLeast = least;
                lengthsHolds = holds;
                for (int k = 0; k < lengths.length; k++) {
                    lengths[k] = -1L;
                }
            }
            int absent = -1 << people * (people - 1) / 2;
            return lengthOf((closed | absent) & (PAIR_SETS - 1), here & (GROUPS - 1), 0);
        }

        private int lengthOf(int closed, int here, int depth) {
            int at = closed * 2 + (here >> 4);
            int shift = (here & 15) * 4;
            if (depth > PAIRS || at < 0 || at >= lengths.length) {
                return 0;
            }
            int length = (int) (lengths[at] >>> shift) & 15;
            if (length != UNKNOWN) {
                return length;
            }
            int most = 0;
            for (int group = 3; group < PAIRS_OF.length; group++) {
                int pairs = PAIRS_OF[group];
                int size = Integer.bitCount(group);
                boolean goes = (group & ~here) == 0 && (pairs & closed) == 0;
                if (goes && size >= lengthsLeast && size <= lengthsHolds) {
                    int there = ~here & (GROUPS - 1) | group;
                    most = Math.max(most, 1 + lengthOf(closed | pairs, there, depth + 1));
                }
            }
            lengths[at] ^= (long) (UNKNOWN ^ most) << shift;
            return most;
        }

        /** The fewest crossings home, and the least group that begins them. */
        private void seekHome(Scene scene, int closed, Parish rules) {
            homeCrossings = 0;
            homeFirst = 0;
            if (scene.across == scene.wanting) {
                return;
            }
            int start = begin(scene, closed, rules);
            int home = 1 << scene.wanting;
            front[start] = 1 << scene.across;
            for (int step = 1; step <= HOME_MOST; step++) {
                int found = spread(sideAhead(scene, step));
                if ((found & home) != 0) {
                    homeCrossings = step;
                    homeFirst = firstOfRow(scene, start, step);
                    return;
                }
                if (found == 0) {
                    break;
                }
            }
            homeCrossings = NOTHING_FITS;
            homeFirst = NOTHING_FITS;
        }

        /** The shore from which the crossing of some step of a row goes: the first, the third from where the boat is. */
        private static int sideAhead(Scene scene, int step) {
            return (scene.boat + step - 1) & 1;
        }

        /** Forgets what was reached, but for how all is now; the closed pairs of people that are there. */
        private int begin(Scene scene, int closed, Parish rules) {
            goingCount = 0;
            int everybody = scene.everybody();
            for (int group = 1; group < going.length; group++) {
                if ((group & ~everybody) == 0 && rules.takesSize(group)) {
                    going[goingCount] = group;
                    goingCount++;
                }
            }
            pairSets = 1 << scene.people * (scene.people - 1) / 2;
            for (int pairs = 0; pairs < PAIR_SETS; pairs++) {
                seen[0][pairs] = 0;
                seen[1][pairs] = 0;
                front[pairs] = 0;
                next[pairs] = 0;
            }
            int start = closed & (pairSets - 1) & (PAIR_SETS - 1);
            seen[scene.boat & 1][start] = 1 << scene.across;
            return start;
        }

        /** From some places (bits), the boat on a side, to those behind a crossing of a group. */
        private static int moved(int places, int group, int side) {
            if (group < 0 || group >= APART.length) {
                return 0;
            }
            return side == 0 ? (places & APART[group]) << group : places >>> group & APART[group];
        }

        /** The front goes on by a crossing from a side to what was not seen yet; all places of that. */
        private int spread(int side) {
            int found = 0;
            for (int closed = 0; closed < pairSets && closed < PAIR_SETS; closed++) {
                for (int k = 0; k < goingCount && k < going.length && front[closed] != 0; k++) {
                    int pairs = pairsOf(going[k]);
                    if ((pairs & closed) == 0) {
                        int places = moved(front[closed], going[k], side) & ~seen[1 - side][closed | pairs];
                        next[closed | pairs] |= places;
                        seen[1 - side][closed | pairs] |= places;
                        found |= places;
                    }
                }
                front[closed] = 0;
            }
            swapSteps();
            return found;
        }

        /** The front goes back from behind a crossing from a side to ahead of it: what the group closed is open there. */
        private void goBack(int side, int start) {
            for (int closed = 0; closed < pairSets && closed < PAIR_SETS; closed++) {
                for (int k = 0; k < goingCount && k < going.length && front[closed] != 0; k++) {
                    int pairs = pairsOf(going[k]);
                    if ((pairs & ~closed) == 0 && (pairs & start) == 0) {
                        next[closed ^ pairs] |= moved(front[closed], going[k], 1 - side);
                    }
                }
                front[closed] = 0;
            }
            swapSteps();
        }

        private void swapSteps() {
            int[] done = front;
            front = next;
            next = done;
        }

        /** The front holds the ends of rows of so many crossings: goes back to behind the first of them. */
        private int firstOfRow(Scene scene, int start, int crossings) {
            for (int closed = 0; closed < pairSets && closed < PAIR_SETS; closed++) {
                front[closed] &= 1 << scene.wanting;
            }
            for (int step = crossings; step > 1; step--) {
                goBack(sideAhead(scene, step), start);
            }
            for (int k = 0; k < goingCount && k < going.length; k++) {
                int pairs = pairsOf(going[k]);
                int place = scene.across ^ going[k];
                boolean goes = (going[k] & ~scene.here()) == 0 && (pairs & start) == 0;
                if (goes && (front[start | pairs] >>> place & 1) != 0) {
                    return going[k];
                }
            }
            return NOTHING_FITS;
        }

        /** Those who are in no group of two or more by any row. Sets of closed pairs that come later are greater. */
        private int leftOut(Scene scene, int closed, Parish rules) {
            int start = begin(scene, closed, rules);
            int everybody = scene.everybody();
            int together = 0;
            for (int at = start; at < pairSets && at < PAIR_SETS && together != everybody; at++) {
                if ((seen[0][at] | seen[1][at]) != 0) {
                    goSingly(at);
                    together |= goTogether(at);
                }
            }
            return everybody & ~together;
        }

        /** All places that are reached by people who go alone, which closes no pairs. */
        private void goSingly(int closed) {
            boolean more = true;
            for (int round = 0; round < 2 * GROUPS && more; round++) {
                int zero = seen[0][closed];
                int one = seen[1][closed];
                for (int k = 0; k < goingCount && k < going.length; k++) {
                    if (pairsOf(going[k]) == 0) {
                        seen[1][closed] |= moved(seen[0][closed], going[k], 0);
                        seen[0][closed] |= moved(seen[1][closed], going[k], 1);
                    }
                }
                more = zero != seen[0][closed] || one != seen[1][closed];
            }
        }

        /** Everybody who can go with somebody from the places that are reached. */
        private int goTogether(int closed) {
            int together = 0;
            for (int k = 0; k < goingCount && k < going.length; k++) {
                int pairs = pairsOf(going[k]);
                if (pairs != 0 && (pairs & closed) == 0) {
                    int one = moved(seen[0][closed], going[k], 0);
                    int zero = moved(seen[1][closed], going[k], 1);
                    seen[1][closed | pairs] |= one;
                    seen[0][closed | pairs] |= zero;
                    together |= (one | zero) != 0 ? going[k] : 0;
                }
            }
            return together;
        }
    }

    /** Takes the first of the groups that may go; its kinds take the one of the highest score, or look otherwise. */
    private static class Plan {
        final int kind;
        final int v;
        final int number;
        private final int[] bodies;

        Plan(int kind, int v, int number, int[] bodies) {
            this.kind = kind;
            this.v = v;
            this.number = number;
            this.bodies = bodies;
        }

        /** One of the open groups (bits), or that none fits. */
        int pick(int open, Scene scene, Parish rules, Search search) {
            int best = NOTHING_FITS;
            int most = 0;
            for (int group = 1; group < GROUPS; group++) {
                if ((open >> group & 1) != 0) {
                    int score = score(group, scene, rules, search);
                    if (best == NOTHING_FITS || score > most) {
                        best = group;
                        most = score;
                    }
                }
            }
            return best;
        }

        int score(int group, Scene scene, Parish rules, Search search) {
            return 0;
        }

        /** Only a told plan has a row. */
        int retell(int part, int group) {
            return STATE;
        }

        void keepRow() {
        }

        void giveRowBack() {
        }

        final void begins(int body) {
            bodies[0]++;
            if (bodies[0] > 0 && bodies[0] < bodies.length) {
                bodies[bodies[0]] = body;
            }
        }

        int takes(int x) {
            begins(10);
            return x + number;
        }

        int rows(int x) {
            begins(11);
            return takes(x) - v;
        }

        int tells(int x) {
            begins(12);
            return rows(x) * 2;
        }
    }

    /** The group of the most. */
    private static class Full extends Plan {
        Full(int kind, int v, int number, int[] bodies) {
            super(kind, v, number, bodies);
        }

        int score(int group, Scene scene, Parish rules, Search search) {
            return Integer.bitCount(group);
        }

        int rows(int x) {
            begins(20);
            return super.rows(x) ^ 6;
        }
    }

    /** The group with the most who want to go, and few who don't. */
    private static class Need extends Plan {
        Need(int kind, int v, int number, int[] bodies) {
            super(kind, v, number, bodies);
        }

        int score(int group, Scene scene, Parish rules, Search search) {
            int wantingOther = Integer.bitCount(group & scene.wantingOther());
            return wantingOther - (Integer.bitCount(group) - wantingOther) / 2;
        }

        int takes(int x) {
            begins(30);
            return super.takes(x * 3);
        }
    }

    /** One by lot: crossings gone choose it. */
    private static class Lot extends Plan {
        Lot(int kind, int v, int number, int[] bodies) {
            super(kind, v, number, bodies);
        }

        int pick(int open, Scene scene, Parish rules, Search search) {
            int lots = lotsOf(open);
            int many = Integer.bitCount(lots);
            if (many < 1) {
                return NOTHING_FITS;
            }
            int place = (v + scene.crossings) % many;
            for (int group = 1; group < GROUPS; group++) {
                if ((lots >> group & 1) != 0) {
                    if (place == 0) {
                        return group;
                    }
                    place--;
                }
            }
            return NOTHING_FITS;
        }

        /** Which of the open groups have a lot. */
        int lotsOf(int open) {
            return open;
        }

        int tells(int x) {
            begins(40);
            return super.tells(x) + rows(1);
        }
    }

    /** The group behind which the longest row is left. */
    private static final class Best extends Full {
        Best(int kind, int v, int number, int[] bodies) {
            super(kind, v, number, bodies);
        }

        int score(int group, Scene scene, Parish rules, Search search) {
            int closed = scene.known(rules.forget, 1) | rules.barred | pairsOf(group);
            int there = scene.everybody() & ~scene.here() | group;
            int length = search.longestBehind(there, scene.people, closed, rules);
            return length * GROUPS + super.score(group, scene, rules, search);
        }

        int takes(int x) {
            begins(50);
            return -super.takes(x);
        }

        int rows(int x) {
            begins(51);
            return super.rows(x + 1);
        }
    }

    /** The group that its row tells, if that may go. */
    private static final class Told extends Need {
        private final int[] told = new int[ROW_PARTS];
        /** The row as the image keeps it; of a plan that came since it tells 0. */
        private final int[] imaged = new int[ROW_PARTS];

        Told(int kind, int v, int number, int[] bodies) {
            super(kind, v, number, bodies);
        }

        int pick(int open, Scene scene, Parish rules, Search search) {
            int part = scene.crossings % ROW_PARTS;
            int group = part >= 0 && part < told.length ? told[part] : 0;
            boolean goes = group > 0 && group < GROUPS && (open >> group & 1) != 0;
            return goes ? group : super.pick(open, scene, rules, search);
        }

        int retell(int part, int group) {
            if (part < 0 || part >= told.length) {
                return NONE;
            }
            int before = told[part];
            told[part] = group;
            return before;
        }

        void keepRow() {
            System.arraycopy(told, 0, imaged, 0, ROW_PARTS);
        }

        void giveRowBack() {
            System.arraycopy(imaged, 0, told, 0, ROW_PARTS);
        }

        int tells(int x) {
            begins(60);
            return super.tells(x - number);
        }
    }

    /** One by lot among the groups of the fewest. */
    private static final class Sparing extends Lot {
        Sparing(int kind, int v, int number, int[] bodies) {
            super(kind, v, number, bodies);
        }

        int lotsOf(int open) {
            int lots = 0;
            int fewest = GROUPS;
            for (int group = 1; group < GROUPS; group++) {
                if ((open >> group & 1) != 0 && Integer.bitCount(group) <= fewest) {
                    lots = Integer.bitCount(group) < fewest ? 0 : lots;
                    lots |= 1 << group;
                    fewest = Integer.bitCount(group);
                }
            }
            return lots;
        }

        int rows(int x) {
            begins(70);
            return super.rows(x) + super.takes(2);
        }

        int takes(int x) {
            begins(71);
            return super.takes(x) ^ v;
        }
    }
}
