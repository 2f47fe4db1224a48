/**
 * Bits of wheat on their way home to the fields they are of: what they are,
 * how they go by days, what would be, and what is kept of them.
 *
 * Every row is made once, with the object, and used again by every call.
 */
public final class CrumbsHome {

    private static final int LOW = -1000000000;

    // Each ERROR as how far it lies below LOW.
    private static final int BEYOND = 1;
    private static final int NONE = 2;
    private static final int STATE = 3;
    private static final int FULL = 4;
    private static final int KIND = 5;
    private static final int PARTED = 6;
    private static final int ERRORS = 6;

    private static final int PLACES = 10;
    private static final int FIELDS = 4;
    private static final int MOST_BITS = 8;
    private static final int MOST_M = 9;
    private static final int MOST_HEARD = 9;
    private static final int LAST_DAY = 9999;
    private static final int MOST_TAPE = 60;
    private static final int MOST_WAITING = 24;
    private static final int MOST_TRACE = 30;
    private static final int MOST_DAYS = 60;
    private static final int FEWER_DAYS = 30;
    private static final int MOST_ASKED = 999;

    private static final int CRUMB = 0;
    private static final int CRUST = 1;
    private static final int OFFICE = 2;
    private static final int POCKET = 3;
    private static final int HEEL = 4;
    private static final int ENVELOPE = 5;
    private static final int KEPT = 6;
    private static final int KINDS = 7;

    /** The KIND above each KIND; -1 above the first. */
    private static final int[] ABOVE = {-1, 0, 0, 0, 1, 2, 0};

    private static final int USES = 2;

    private static final int WALKS = 0;
    private static final int WARMS = 1;
    private static final int SPROUTS = 2;
    private static final int PARTS = 3;
    private static final int VOICES = 4;

    /** The BODY that each KIND has of each VOICE, a row a KIND; 0 where it has none. */
    private static final int[] BODIES = {
        10, 11, 12, 13,
        20, 0, 0, 21,
        0, 30, 0, 0,
        0, 0, 40, 0,
        50, 0, 51, 0,
        0, 60, 0, 0,
        70, 71, 0, 0};

    /** No VOICE stands so deep in others; it keeps say() from going on for ever. */
    private static final int MOST_DEEP = 20;

    private final World now = new World();
    private final World kept = new World();
    private int images = 0;

    // What is only thought goes by in these, so that nothing of it stays.
    private final Harvest thought = new Harvest();
    private final Roads trial = new Roads();

    private final int[] paces = new int[MOST_BITS];
    private final Reader reader = new Reader();
    private final Sheets sheets = new Sheets();
    private final int[] errors = new int[ERRORS + 1];

    // THE TRACE is of the latest voice(), also of one that is PARTED.
    private final int[] trace = new int[MOST_TRACE];
    private int traced = 0;
    private boolean parted = false;

    public CrumbsHome() {
    }

    // ---- places, bits

    public int opens(int one, int other, int is) {
        if (!isPlace(one) || !isPlace(other) || one == other || is < 0 || is > 1) return error(BEYOND);
        int was = now.roads.isOpen(one, other) ? 1 : 0;
        if (is > was) now.roads.join(one, other);
        if (is < was) now.roads.shut(one, other);
        return was;
    }

    public int field(int field, int place) {
        if (!isField(field) || !isPlace(place)) return error(BEYOND);
        int was = now.harvest.fieldAt[field];
        now.harvest.fieldAt[field] = place;
        return was;
    }

    public int far(int one, int other) {
        if (!isPlace(one) || !isPlace(other)) return error(BEYOND);
        if (!now.roads.leads(one, other)) return error(NONE);
        return now.roads.between(one, other);
    }

    public int bit(int km, int field, int place) {
        if (!isKindAndM(km) || !isField(field) || !isPlace(place)) return error(BEYOND);
        if (now.harvest.size >= MOST_BITS) return error(FULL);
        return now.harvest.grow(km, field, place);
    }

    public int bitIs(int bit, int what) {
        if (!isBit(bit)) return error(BEYOND);
        Harvest h = now.harvest;
        switch (what) {
            case 0: return h.kind[bit];
            case 1: return h.m[bit];
            case 2: return h.of[bit];
            case 3: return h.at[bit];
            case 4: return h.heard[bit];
            case 5: return stepsOf(h, now.roads, bit);
            case 6: return worthOf(h, bit);
            case 7: return warmthOf(h, now.roads, bit);
            default: return error(BEYOND);
        }
    }

    public int become(int bit, int km) {
        if (!isBit(bit) || !isKindAndM(km)) return error(BEYOND);
        int was = now.harvest.kind[bit];
        now.harvest.kind[bit] = km / (MOST_M + 1);
        now.harvest.m[bit] = km % (MOST_M + 1);
        return was;
    }

    public int as(int bit, int kind) {
        if (!isBit(bit) || kind < 0 || kind >= KINDS) return error(BEYOND);
        if (!isOrIsUnder(now.harvest.kind[bit], kind)) return error(KIND);
        return now.harvest.m[bit];
    }

    public int hears(int bit, int heard) {
        if (!isBit(bit) || heard < 0 || heard > MOST_HEARD) return error(BEYOND);
        int was = now.harvest.heard[bit];
        now.harvest.heard[bit] = heard;
        return was;
    }

    public int lay(int bit, int place) {
        if (!isBit(bit) || !isPlace(place)) return error(BEYOND);
        int was = now.harvest.at[bit];
        now.harvest.at[bit] = place;
        return was;
    }

    // ---- texts

    public int feed(long word, int n) {
        if (n < 1 || n > 8) return error(BEYOND);
        if (now.tapeLength + n > MOST_TAPE) return error(FULL);
        for (int i = 0; i < n; i++) {
            now.tape[now.tapeLength + i] = (int) (word >>> (8 * i)) & 255;
        }
        now.tapeLength += n;
        return now.tapeLength;
    }

    public int text(int use) {
        if (!isUse(use)) return error(BEYOND);
        Law law = lawOf(use);
        int fault = reader.reads(now.tape, now.tapeLength, law.names);
        now.tapeLength = 0;
        if (fault >= 0) return -10 - fault;
        law.take(reader.code, reader.written);
        return 1;
    }

    public int untell(int use) {
        if (!isUse(use)) return error(BEYOND);
        Law law = lawOf(use);
        int was = law.length > 0 ? 1 : 0;
        law.length = 0;
        return was;
    }

    public int law(int use, int a, int b, int c) {
        if (!isUse(use)) return error(BEYOND);
        return lawOf(use).gives(a, b, c);
    }

    // ---- days

    public int days(int n) {
        if (n < 1 || n > MOST_DAYS) return error(BEYOND);
        if (now.harvest.day + n > LAST_DAY) return error(STATE);
        passDays(now.harvest, now.roads, n);
        return now.harvest.homeSet();
    }

    public int loose(int n) {
        if (n < 1 || n > FEWER_DAYS) return error(BEYOND);
        if (now.harvest.day + n > LAST_DAY) return error(STATE);
        for (int i = 0; i < n; i++) {
            now.stir();
            passDay(now.harvest, now.roads);
        }
        return now.harvest.homeSet();
    }

    public int day(int v) {
        if (v < 0 || v > LAST_DAY) return error(BEYOND);
        int was = now.harvest.day;
        now.harvest.day = v;
        return was;
    }

    public int seed(int v) {
        int was = now.z;
        now.z = v;
        return was;
    }

    // ---- what would be

    public int then(int bit, int n) {
        if (!isBit(bit) || n < 0 || n > MOST_DAYS) return error(BEYOND);
        think(n);
        return thought.at[bit];
    }

    public int soonest(int bit) {
        if (!isBit(bit)) return error(BEYOND);
        thought.copy(now.harvest);
        for (int i = 0; i <= MOST_DAYS; i++) {
            if (thought.isHome(bit)) return i;
            passDay(thought, now.roads);
        }
        return error(NONE);
    }

    public int gets(int field, int n) {
        if (!isField(field) || n < 0 || n > MOST_DAYS) return error(BEYOND);
        think(n);
        return worthAtHome(thought, field);
    }

    public int carry(int field, int v, int n) {
        if (!isField(field) || v < 0 || v > MOST_ASKED || n < 0 || n > FEWER_DAYS) return error(BEYOND);
        int all = now.harvest.awaySet(field);
        // All of them HOME is the most that the FIELD can get, for no WORTH is below 0.
        if (getsWith(field, all, n) < v) return error(NONE);
        for (int few = 0; few < Integer.bitCount(all); few++) {
            for (int set = 0; set < all; set++) {
                boolean isOne = (set & ~all) == 0 && Integer.bitCount(set) == few;
                if (isOne && getsWith(field, set, n) >= v) return set;
            }
        }
        return all;
    }

    public int way(int n, int what) {
        if (n < 0 || n > FEWER_DAYS || what < 0 || what > 1) return error(BEYOND);
        int best = -1;
        int most = -1;
        for (int one = 0; one < PLACES; one++) {
            for (int other = one + 1; other < PLACES; other++) {
                if (most == now.harvest.size || now.roads.isOpen(one, other)) continue;
                int home = homeWithWay(one, other, n);
                if (home > most) {
                    most = home;
                    best = 10 * one + other;
                }
            }
        }
        if (best < 0) return error(NONE);
        return what == 0 ? best : most;
    }

    public int odds(int n, int part) {
        if (n < 0 || n > MOST_DAYS || part < 0 || part > 1) return error(BEYOND);
        int below = now.harvest.size;
        if (below == 0) return error(STATE);
        think(n);
        int above = Integer.bitCount(thought.homeSet());
        int divisor = greatestDivisor(above, below);
        return (part == 0 ? above : below) / divisor;
    }

    public int whose(int sheet, int bit, int what) {
        if (!isSheet(sheet) || !isBit(bit) || what < 0 || what > 1) return error(BEYOND);
        if (sheets.isMissing(sheet)) return error(NONE);
        int set = 0;
        for (int field = 0; field < FIELDS; field++) {
            if (wouldWarmSo(sheet, bit, field)) set |= 1 << field;
        }
        return what == 0 ? set : Integer.bitCount(set);
    }

    // ---- voices, sheets, images, what is told

    public int voice(int bit, int voice, int x) {
        if (!isBit(bit) || voice < 0 || voice >= VOICES) return error(BEYOND);
        traced = 0;
        parted = false;
        int said = say(bit, voice, now.harvest.kind[bit], x, 0);
        return parted ? error(PARTED) : said;
    }

    public int body(int i) {
        if (i < 0 || i >= traced) return error(NONE);
        return trace[i];
    }

    public int sheet(int sheet, int bits, int n) {
        boolean isSize = bits == 0 || bits == 8 || bits == 16 || bits == 32;
        if (!isSheet(sheet) || !isSize) return error(BEYOND);
        if (bits != 0 && n < 0) return error(STATE);
        if (bits != 0 && n > Sheets.MOST) return error(BEYOND);
        sheets.make(sheet, bits, bits == 0 ? 0 : n);
        return 1;
    }

    public int put(int sheet, int i, int v) {
        if (!isSheet(sheet)) return error(BEYOND);
        if (sheets.isMissing(sheet)) return error(NONE);
        if (i < 0 || i >= sheets.length[sheet]) return error(BEYOND);
        sheets.write(sheet, i, v);
        return 1;
    }

    public int move(int sheet, int i, int other, int j, int n) {
        if (!isSheet(sheet) || !isSheet(other)) return error(BEYOND);
        if (sheets.isMissing(sheet) || sheets.isMissing(other)) return error(NONE);
        if (sheets.bits[sheet] != sheets.bits[other]) return error(KIND);
        if (!sheets.stands(sheet, i, n) || !sheets.stands(other, j, n)) return error(BEYOND);
        sheets.shift(sheet, i, other, j, n);
        return n;
    }

    public int lays(int sheet) {
        if (!isSheet(sheet)) return error(BEYOND);
        if (sheets.isMissing(sheet)) return error(NONE);
        int laid = 0;
        while (laid < sheets.length[sheet] && isBit(laid) && isPlace(sheets.number(sheet, laid))) {
            now.harvest.at[laid] = sheets.number(sheet, laid);
            laid++;
        }
        return laid;
    }

    public int judge(int sheet) {
        if (!isSheet(sheet)) return error(BEYOND);
        if (sheets.isMissing(sheet)) return error(NONE);
        int right = 0;
        while (right < sheets.length[sheet] && isBit(right)
                && sheets.number(sheet, right) == warmthOf(now.harvest, now.roads, right)) {
            right++;
        }
        return right;
    }

    public int image() {
        kept.copy(now);
        images++;
        return images;
    }

    public int restore() {
        if (images == 0) return error(NONE);
        now.copy(kept);
        return now.harvest.day;
    }

    public int tell(int v) {
        if (now.waits >= MOST_WAITING) return error(FULL);
        now.waiting[now.waits] = v;
        now.waits++;
        return now.waits;
    }

    public int check() {
        int told = now.waits;
        now.waits = 0;
        for (int i = 0; i < told; i++) {
            if (!isBit(i) || now.harvest.at[i] != now.waiting[i]) return 1 + i;
        }
        return 0;
    }

    public int count(int what) {
        switch (what) {
            case 0: return now.harvest.size;
            case 1: return now.harvest.day;
            case 2: return now.harvest.homeSet();
            case 3: return now.tapeLength;
            case 4: return now.waits;
            case 5: return traced;
            case 6: return now.z;
            default: return error(BEYOND);
        }
    }

    public int told(int k) {
        if (k < 1 || k > ERRORS) return error(BEYOND);
        return errors[k];
    }

    // ---- what the acts above ask

    private int error(int k) {
        errors[k]++;
        return LOW - k;
    }

    private static boolean isPlace(int place) {
        return place >= 0 && place < PLACES;
    }

    private static boolean isField(int field) {
        return field >= 0 && field < FIELDS;
    }

    private boolean isBit(int bit) {
        return bit >= 0 && bit < now.harvest.size;
    }

    private static boolean isKindAndM(int km) {
        return km >= 0 && km < KINDS * (MOST_M + 1);
    }

    private static boolean isUse(int use) {
        return use >= 0 && use < USES;
    }

    private static boolean isSheet(int sheet) {
        return sheet >= 0 && sheet < Sheets.SHEETS;
    }

    private static boolean isOrIsUnder(int kind, int other) {
        int k = kind;
        for (int i = 0; i < KINDS && k >= 0; i++) {
            if (k == other) return true;
            k = ABOVE[k];
        }
        return false;
    }

    private static int greatestDivisor(int one, int other) {
        for (int d = Math.max(one, other); d > 1; d--) {
            if (one % d == 0 && other % d == 0) return d;
        }
        return 1;
    }

    private Law lawOf(int use) {
        return use == 0 ? now.steps : now.worth;
    }

    // ---- how a DAY goes by

    private int stepsOf(Harvest h, Roads roads, int bit) {
        int goal = h.goal(bit);
        int far = roads.leads(h.at[bit], goal) ? roads.between(h.at[bit], goal) : 0;
        return now.steps.gives(h.walks(bit), h.day % 7, far);
    }

    private int worthOf(Harvest h, int bit) {
        return now.worth.gives(h.weighs(bit), h.heard[bit], h.day % 10);
    }

    private static int warmthOf(Harvest h, Roads roads, int bit) {
        int goal = h.goal(bit);
        return roads.leads(h.at[bit], goal) ? 9 - roads.between(h.at[bit], goal) : 0;
    }

    /** A DAY goes by; whether any of BITS was on its way as it began. */
    private boolean passDay(Harvest h, Roads roads) {
        boolean anyGoes = false;
        for (int b = 0; b < h.size; b++) {
            boolean goes = !h.isHome(b) && roads.leads(h.at[b], h.goal(b));
            paces[b] = goes ? stepsOf(h, roads, b) : 0;
            anyGoes |= goes;
        }
        for (int b = 0; b < h.size; b++) {
            h.at[b] = roads.walked(h.at[b], h.goal(b), paces[b]);
        }
        h.day++;
        return anyGoes;
    }

    private void passDays(Harvest h, Roads roads, int n) {
        boolean anyGoes = true;
        int gone = 0;
        while (gone < n && anyGoes) {
            anyGoes = passDay(h, roads);
            gone++;
        }
        // Where none is on its way, none ever will be: only DAY goes on.
        h.day += n - gone;
    }

    // ---- what is only thought

    private void think(int n) {
        thought.copy(now.harvest);
        passDays(thought, now.roads, n);
    }

    private int worthAtHome(Harvest h, int field) {
        int sum = 0;
        for (int b = 0; b < h.size; b++) {
            if (h.of[b] == field && h.isHome(b)) sum += worthOf(h, b);
        }
        return sum;
    }

    private int getsWith(int field, int set, int n) {
        thought.copy(now.harvest);
        for (int b = 0; b < thought.size; b++) {
            if ((set >> b & 1) == 1) thought.at[b] = thought.goal(b);
        }
        passDays(thought, now.roads, n);
        return worthAtHome(thought, field);
    }

    private int homeWithWay(int one, int other, int n) {
        trial.copy(now.roads);
        trial.join(one, other);
        thought.copy(now.harvest);
        passDays(thought, trial, n);
        return Integer.bitCount(thought.homeSet());
    }

    private boolean wouldWarmSo(int sheet, int bit, int field) {
        thought.copy(now.harvest);
        thought.of[bit] = field;
        for (int i = 0; i < sheets.length[sheet]; i++) {
            if (sheets.number(sheet, i) != warmthOf(thought, now.roads, bit)) return false;
            passDay(thought, now.roads);
        }
        return true;
    }

    // ---- how a VOICE is worked out

    /**
     * A VOICE of one of BITS by the BODY that a KIND has of it, or the next KIND above.
     * Once it is PARTED it has come to its end: no further BODY begins.
     */
    private int say(int bit, int voice, int from, int x, int deep) {
        if (parted) return 0;
        int k = from;
        for (int i = 0; i < KINDS && k >= 0 && BODIES[k * VOICES + voice] == 0; i++) k = ABOVE[k];
        if (k < 0 || deep > MOST_DEEP) return 0;
        int body = BODIES[k * VOICES + voice];
        if (traced < MOST_TRACE) trace[traced++] = body;
        return sayBody(body, bit, ABOVE[k], x, deep + 1);
    }

    /** What a BODY says of one of BITS; above is the KIND above that whose BODY it is. */
    private int sayBody(int body, int bit, int above, int x, int deep) {
        int own = now.harvest.kind[bit];
        int m = now.harvest.m[bit];
        switch (body) {
            case 10: return x + bit;
            case 11: return say(bit, WALKS, own, x, deep) * 2;
            case 12: return say(bit, WARMS, own, x, deep) - m;
            case 13: return partsOf(x, m - bit);
            case 20: return say(bit, WALKS, above, x, deep) - 4;
            case 21: return say(bit, PARTS, above, x, deep) + say(bit, WARMS, own, 1, deep);
            case 30: return 0 - say(bit, WARMS, above, x, deep);
            case 40: return say(bit, SPROUTS, above, x / 2, deep);
            case 50: return say(bit, WALKS, above, x, deep) * 3;
            case 51: return say(bit, SPROUTS, above, x, deep) ^ bit;
            case 60: return say(bit, WARMS, above, x + 1, deep);
            case 70: return 9;
            case 71: return say(bit, WARMS, above, x, deep) + m;
            default: return 0;
        }
    }

    /** Where voice() is PARTED the number that this gives doesn't matter: nothing is answered of it. */
    private int partsOf(int x, int divisor) {
        if (divisor == 0) {
            parted = true;
            return 0;
        }
        return x / divisor;
    }

    /** The WAYS, and how FAR each PLACE is from each. */
    private static final class Roads {
        /** Above any FAR, so that a sum with it stays above it. */
        private static final int NO_WAY = 99;

        private final int[] ways = new int[PLACES];
        private final int[] far = new int[PLACES * PLACES];

        Roads() {
            measure();
        }

        void copy(Roads other) {
            System.arraycopy(other.ways, 0, ways, 0, PLACES);
            System.arraycopy(other.far, 0, far, 0, PLACES * PLACES);
        }

        boolean isOpen(int one, int other) {
            return (ways[one] >> other & 1) == 1;
        }

        boolean leads(int one, int other) {
            return far[one * PLACES + other] < NO_WAY;
        }

        int between(int one, int other) {
            return far[one * PLACES + other];
        }

        void join(int one, int other) {
            ways[one] |= 1 << other;
            ways[other] |= 1 << one;
            shorten(one, other);
        }

        void shut(int one, int other) {
            ways[one] &= ~(1 << other);
            ways[other] &= ~(1 << one);
            measure();
        }

        private void measure() {
            for (int i = 0; i < far.length; i++) {
                far[i] = i / PLACES == i % PLACES ? 0 : NO_WAY;
            }
            for (int one = 0; one < PLACES; one++) {
                for (int other = one + 1; other < PLACES; other++) {
                    if (isOpen(one, other)) shorten(one, other);
                }
            }
        }

        /** A fewest row of WAYS goes over a new one at most once, one way or the other. */
        private void shorten(int one, int other) {
            for (int p = 0; p < PLACES; p++) {
                for (int q = 0; q < PLACES; q++) {
                    int forth = between(p, one) + 1 + between(other, q);
                    int back = between(p, other) + 1 + between(one, q);
                    far[p * PLACES + q] = Math.min(between(p, q), Math.min(forth, back));
                }
            }
        }

        int walked(int from, int goal, int steps) {
            int at = from;
            for (int i = 0; i < steps && at != goal; i++) at = nextToward(at, goal);
            return at;
        }

        private int nextToward(int at, int goal) {
            for (int p = 0; p < PLACES; p++) {
                if (isOpen(at, p) && between(p, goal) == between(at, goal) - 1) return p;
            }
            return at;
        }
    }

    /** The BITS, the FIELDS and the DAY: all that changes as days go by. */
    private static final class Harvest {
        private int size = 0;
        private int day = 0;
        private final int[] kind = new int[MOST_BITS];
        private final int[] m = new int[MOST_BITS];
        private final int[] of = new int[MOST_BITS];
        private final int[] at = new int[MOST_BITS];
        private final int[] heard = new int[MOST_BITS];
        private final int[] fieldAt = new int[FIELDS];

        Harvest() {
            for (int i = 0; i < FIELDS; i++) fieldAt[i] = i;
        }

        void copy(Harvest other) {
            size = other.size;
            day = other.day;
            System.arraycopy(other.kind, 0, kind, 0, MOST_BITS);
            System.arraycopy(other.m, 0, m, 0, MOST_BITS);
            System.arraycopy(other.of, 0, of, 0, MOST_BITS);
            System.arraycopy(other.at, 0, at, 0, MOST_BITS);
            System.arraycopy(other.heard, 0, heard, 0, MOST_BITS);
            System.arraycopy(other.fieldAt, 0, fieldAt, 0, FIELDS);
        }

        int grow(int km, int field, int place) {
            int b = size;
            kind[b] = km / (MOST_M + 1);
            m[b] = km % (MOST_M + 1);
            of[b] = field;
            at[b] = place;
            heard[b] = 0;
            size++;
            return b;
        }

        int goal(int b) {
            return fieldAt[of[b]];
        }

        boolean isHome(int b) {
            return at[b] == goal(b);
        }

        int homeSet() {
            int set = 0;
            for (int b = 0; b < size; b++) {
                if (isHome(b)) set |= 1 << b;
            }
            return set;
        }

        /** Those OF a FIELD that aren't HOME. */
        int awaySet(int field) {
            int set = 0;
            for (int b = 0; b < size; b++) {
                if (of[b] == field && !isHome(b)) set |= 1 << b;
            }
            return set;
        }

        private boolean hasCompany(int b) {
            for (int other = 0; other < size; other++) {
                if (other != b && of[other] == of[b] && at[other] == at[b]) return true;
            }
            return false;
        }

        int walks(int b) {
            int crust = day % 2 == 0 ? 1 : 0;
            int office = day % 7 == m[b] % 7 ? 2 : 0;
            switch (kind[b]) {
                case CRUMB: return 1;
                case CRUST: return crust;
                case OFFICE: return office;
                case POCKET: return m[b] > 6 || hasCompany(b) ? 1 : 0;
                case HEEL: return crust + (day % 3 == 0 ? 1 : 0);
                case ENVELOPE: return office + 1;
                case KEPT: return m[b] == MOST_M ? 1 : 0;
                default: return 0;
            }
        }

        int weighs(int b) {
            int crumb = 10 + m[b];
            int crust = crumb + heard[b];
            int office = heard[b] > 4 ? crumb : 0;
            switch (kind[b]) {
                case CRUMB: return crumb;
                case CRUST: return crust;
                case OFFICE: return office;
                case POCKET: return crumb / 2;
                case HEEL: return crust + 5;
                case ENVELOPE: return 2 * office + m[b];
                case KEPT: return 3 * crumb;
                default: return 0;
            }
        }
    }

    /** All that an IMAGE keeps. */
    private static final class World {
        private final Roads roads = new Roads();
        private final Harvest harvest = new Harvest();
        private final Law steps = new Law("sdf", 3);
        private final Law worth = new Law("why", 99);
        private final int[] tape = new int[MOST_TAPE];
        private int tapeLength = 0;
        private final int[] waiting = new int[MOST_WAITING];
        private int waits = 0;
        private int z = 1;

        void copy(World other) {
            roads.copy(other.roads);
            harvest.copy(other.harvest);
            steps.take(other.steps.code, other.steps.length);
            worth.take(other.worth.code, other.worth.length);
            System.arraycopy(other.tape, 0, tape, 0, MOST_TAPE);
            tapeLength = other.tapeLength;
            System.arraycopy(other.waiting, 0, waiting, 0, MOST_WAITING);
            waits = other.waits;
            z = other.z;
        }

        private int draw() {
            z = z * 1103515245 + 12345;
            return z >>> 8;
        }

        /** What DRAWS do ahead of a DAY. */
        void stir() {
            if (harvest.size == 0) return;
            int b = draw() % harvest.size;
            harvest.heard[b] = draw() % 10;
            if (draw() % 8 == 0) harvest.at[b] = draw() % PLACES;
        }
    }

    /** What a USE gives: by its TEXT, worked out from left to right, signs behind what they join. */
    private static final class Law {
        // A word of the code is a number of 4 digits at the most, a NAME, or a sign.
        private static final int NAME = 10000;
        private static final int SIGN = 20000;

        private final String names;
        private final int most;
        private final int[] code = new int[MOST_TAPE];
        private final int[] stack = new int[MOST_TAPE];
        private int length = 0;

        Law(String names, int most) {
            this.names = names;
            this.most = most;
        }

        void take(int[] words, int n) {
            System.arraycopy(words, 0, code, 0, n);
            length = n;
        }

        int gives(int a, int b, int c) {
            int given = length == 0 ? a : workedOut(a, b, c);
            return Math.max(0, Math.min(most, given));
        }

        private int workedOut(int a, int b, int c) {
            int top = -1;
            for (int i = 0; i < length; i++) {
                int word = code[i];
                if (word == SIGN + '!') {
                    if (top >= 0) stack[top] = stack[top] == 0 ? 1 : 0;
                } else if (word >= SIGN) {
                    if (top < 1) return 0;
                    top--;
                    stack[top] = joined(word - SIGN, stack[top], stack[top + 1]);
                } else if (top + 1 < stack.length) {
                    top++;
                    stack[top] = word < NAME ? word : word == NAME ? a : word == NAME + 1 ? b : c;
                }
            }
            return top < 0 ? 0 : stack[top];
        }

        private static int joined(int sign, int left, int right) {
            switch (sign) {
                case '|': return left != 0 || right != 0 ? 1 : 0;
                case '&': return left != 0 && right != 0 ? 1 : 0;
                case '<': return left < right ? 1 : 0;
                case '=': return left == right ? 1 : 0;
                case '>': return left > right ? 1 : 0;
                case '+': return left + right;
                case '-': return left - right;
                case '*': return left * right;
                case '/': return right == 0 ? 0 : left / right;
                case '%': return right == 0 ? 0 : left % right;
                default: return 0;
            }
        }
    }

    /** Reads THE TAPE as a TEXT. */
    private static final class Reader {
        private static final int MOST_DIGITS = 4;
        private static final int MOST_OPEN = 5;
        private static final int COMPARING = 2;
        private static final int RANKS = 5;

        private final int[] code = new int[MOST_TAPE];
        private int written = 0;

        private final int[] tape = new int[MOST_TAPE];
        private int length = 0;
        private String names = "";
        private int place = 0;
        private boolean faulty = false;

        /** The FAULT, or -1 if there is none: then the code stands in the row. */
        int reads(int[] bytes, int n, String known) {
            System.arraycopy(bytes, 0, tape, 0, n);
            length = n;
            names = known;
            place = 0;
            written = 0;
            faulty = false;
            readRank(0, 0);
            if (!faulty && place == length) return -1;
            return place;
        }

        /** The signs of a rank; those of a higher one bind closer. */
        private static String signsOf(int rank) {
            switch (rank) {
                case 0: return "|";
                case 1: return "&";
                case COMPARING: return "<=>";
                case 3: return "+-";
                default: return "*/%";
            }
        }

        private void readRank(int rank, int open) {
            if (rank < RANKS) {
                readJoined(rank, open);
            } else {
                readOne(open);
            }
        }

        /** Parts of the next rank, and the signs of this one between them. */
        private void readJoined(int rank, int open) {
            readRank(rank + 1, open);
            String signs = signsOf(rank);
            int most = rank == COMPARING ? 1 : MOST_TAPE;
            for (int i = 0; i < most && !faulty && isNextOf(signs); i++) {
                int sign = tape[place];
                place++;
                readRank(rank + 1, open);
                write(Law.SIGN + sign);
            }
        }

        private void readOne(int open) {
            if (isNextOf("!(")) {
                readOpened(open);
            } else if (isNextOf(names)) {
                write(Law.NAME + names.indexOf((char) tape[place]));
                place++;
            } else if (isNextDigit()) {
                readNumber();
            } else {
                faulty = true;
            }
        }

        private void readOpened(int open) {
            if (open >= MOST_OPEN) {
                faulty = true;
                return;
            }
            int sign = tape[place];
            place++;
            if (sign == '!') {
                readOne(open + 1);
                write(Law.SIGN + sign);
                return;
            }
            readRank(0, open + 1);
            if (!faulty && isNextOf(")")) {
                place++;
            } else {
                faulty = true;
            }
        }

        private void readNumber() {
            int number = 0;
            for (int i = 0; i < MOST_DIGITS && isNextDigit(); i++) {
                number = 10 * number + tape[place] - '0';
                place++;
            }
            write(number);
        }

        private boolean isNextDigit() {
            return place < length && tape[place] >= '0' && tape[place] <= '9';
        }

        private boolean isNextOf(String signs) {
            return place < length && signs.indexOf((char) tape[place]) >= 0;
        }

        private void write(int word) {
            if (written < code.length) {
                code[written] = word;
                written++;
            }
        }
    }

    /** The SHEETS, one row behind the other in one array. */
    private static final class Sheets {
        private static final int SHEETS = 4;
        private static final int MOST = 24;

        private final int[] bits = new int[SHEETS];
        private final int[] length = new int[SHEETS];
        private final int[] numbers = new int[SHEETS * MOST];

        boolean isMissing(int sheet) {
            return bits[sheet] == 0;
        }

        void make(int sheet, int size, int n) {
            bits[sheet] = size;
            length[sheet] = n;
            for (int i = 0; i < MOST; i++) numbers[sheet * MOST + i] = 0;
        }

        int number(int sheet, int i) {
            return numbers[sheet * MOST + i];
        }

        void write(int sheet, int i, int v) {
            int lowest = bits[sheet] == 8 ? (byte) v : bits[sheet] == 16 ? (short) v : v;
            numbers[sheet * MOST + i] = lowest;
        }

        boolean stands(int sheet, int i, int n) {
            return i >= 0 && n >= 0 && (long) i + n <= length[sheet];
        }

        void shift(int sheet, int i, int other, int j, int n) {
            System.arraycopy(numbers, sheet * MOST + i, numbers, other * MOST + j, n);
        }
    }
}
