import java.util.Arrays;

/**
 * Water below ground, after the document's promises 1 to 48.
 *
 * All heads of a rest are kept as whole numbers ("tops") over one common whole
 * number ("below"), so that nothing is ever rounded before it is told.
 */
public final class GroundWaters {
    public static final int UNKNOWN = -10000001, BAD = -10000002, STATE = -10000003, FULL = -10000004, NONE = -10000009;

    private static final int MAX_CELLS = 6, MAX_LINKS = 12, MAX_RIVERS = 3, MAX_DRAINS = 2, MAX_WELLS = 3;
    private static final int MAX_WORLDS = 5, MAX_SIGNS = 200, MAX_OUTLETS = 20;
    private static final int MAX_BOTTOM = 500, MAX_RAIN = 99, MAX_STORE = 9, MAX_EASE = 9;
    private static final int MAX_STAGE = 1000, MAX_CAP = 99, MAX_WORTH = 99, MAX_LIMIT = 2000000;
    private static final int MAX_CUPS = 1000000, MAX_TICKS = 100, MAX_SEEN = 9000000, MAX_GIVE = 100000;
    private static final int BOOKS = 6, RAINED = 0, RIVERS_GAVE = 1, RIVERS_TOOK = 2, DRAINS_TOOK = 3, WELLS_TOOK = 4, RAN_OFF = 5;
    private static final int PATTERNS = 32, FIRST_DRAIN_BIT = 3;
    private static final int TO_RIVER = 100, TO_DRAIN = 200, TO_WELL = 300;
    private static final int SPILL = 1000000, SALT_DEPTH = 40, LEVELS = 5, TOP_LEVEL = 4;
    private static final int[] FACTORIAL = {1, 1, 2, 6};

    private final Land land;
    private final Rest rest;
    private final Ways ways;
    private final Cups cups;
    private final Worlds worlds;
    private final Permit permit;
    private final Plans plans;

    public GroundWaters() {
        land = new Land();
        rest = new Rest(land, PATTERNS);
        ways = new Ways(land, rest);
        cups = new Cups(land);
        worlds = new Worlds(land);
        permit = new Permit(land, rest);
        plans = new Plans(land, rest, permit);
    }

    // ---- the land

    public int cell(int bottom, int rain, int store) {
        if (outside(bottom, 0, MAX_BOTTOM) || outside(rain, 0, MAX_RAIN) || outside(store, 1, MAX_STORE)) return BAD;
        if (land.cells >= MAX_CELLS) return FULL;
        rest.forget();
        return land.addCell(bottom, rain, store);
    }

    public int link(int a, int b, int ease) {
        if (!land.hasCell(a) || !land.hasCell(b)) return UNKNOWN;
        if (outside(ease, 1, MAX_EASE)) return BAD;
        if (a == b) return STATE;
        if (land.links.size >= MAX_LINKS) return FULL;
        rest.forget();
        return land.links.add(a, b, ease);
    }

    public int river(int cell, int stage, int bed, int ease) {
        if (!land.hasCell(cell)) return UNKNOWN;
        if (outside(stage, 0, MAX_STAGE) || outside(bed, 0, stage) || outside(ease, 1, MAX_EASE)) return BAD;
        if (land.rivers.size >= MAX_RIVERS) return FULL;
        rest.forget();
        return land.rivers.add(cell, stage, bed, ease);
    }

    public int drain(int cell, int level, int ease) {
        if (!land.hasCell(cell)) return UNKNOWN;
        if (outside(level, 0, MAX_STAGE) || outside(ease, 1, MAX_EASE)) return BAD;
        if (land.drains.size >= MAX_DRAINS) return FULL;
        rest.forget();
        return land.drains.add(cell, level, ease);
    }

    public int well(int cell, int cap, int worth) {
        if (!land.hasCell(cell)) return UNKNOWN;
        if (outside(cap, 0, MAX_CAP) || outside(worth, 0, MAX_WORTH)) return BAD;
        if (land.wells.size >= MAX_WELLS) return FULL;
        return land.wells.add(cell, cap, worth);
    }

    public int rain(int cell, int v) {
        if (!land.hasCell(cell)) return UNKNOWN;
        if (outside(v, 0, MAX_RAIN)) return BAD;
        return exchange(land.rain, cell, v);
    }

    public int ease(int link, int v) {
        if (!land.links.has(link)) return UNKNOWN;
        if (outside(v, 1, MAX_EASE)) return BAD;
        rest.forget();
        return exchange(land.links.ease, link, v);
    }

    public int rate(int well, int v) {
        if (!land.wells.has(well)) return UNKNOWN;
        if (outside(v, 0, land.wells.cap[well])) return BAD;
        return exchange(land.wells.rate, well, v);
    }

    public int stage(int river, int v) {
        if (!land.rivers.has(river)) return UNKNOWN;
        if (outside(v, land.rivers.bed[river], MAX_STAGE)) return BAD;
        return exchange(land.rivers.stage, river, v);
    }

    // ---- the rest

    public int pattern() {
        return atRest() ? rest.found : NONE;
    }

    public long head(int cell, boolean upper) {
        if (!land.hasCell(cell)) return UNKNOWN;
        if (!atRest()) return STATE;
        return leastTerm(rest.tops[cell], rest.below, upper);
    }

    public int milli(int cell) {
        if (!land.hasCell(cell)) return UNKNOWN;
        if (!atRest()) return STATE;
        return rest.headMilli(cell);
    }

    public int flow(int link) {
        if (!land.links.has(link)) return UNKNOWN;
        if (!atRest()) return STATE;
        return milliOf(rest.linkTop(link), rest.below);
    }

    public int gives(int river) {
        if (!land.rivers.has(river)) return UNKNOWN;
        if (!atRest()) return STATE;
        return milliOf(rest.riverTop(river), rest.below);
    }

    public int takes(int drain) {
        if (!land.drains.has(drain)) return UNKNOWN;
        if (!atRest()) return STATE;
        return milliOf(rest.drainTop(drain), rest.below);
    }

    public int dry(int cell) {
        if (!land.hasCell(cell)) return UNKNOWN;
        if (!atRest()) return STATE;
        return rest.isDry(cell) ? 1 : 0;
    }

    public int salt(int cell) {
        if (!land.hasCell(cell)) return UNKNOWN;
        if (!atRest()) return STATE;
        return milliOf(-SALT_DEPTH * rest.tops[cell], rest.below);
    }

    public long through(boolean upper) {
        if (!atRest()) return STATE;
        return leastTerm(rest.throughTop(), rest.below, upper);
    }

    // ---- ways, zones, spills

    public int way(int cell, int i) {
        if (!land.hasCell(cell)) return UNKNOWN;
        if (!atRest()) return STATE;
        return ways.cellOfWay(cell, i);
    }

    public int end(int cell) {
        if (!land.hasCell(cell)) return UNKNOWN;
        if (!atRest()) return STATE;
        return ways.endOfWay(cell);
    }

    public long time(int cell, boolean upper) {
        if (!land.hasCell(cell)) return UNKNOWN;
        if (!atRest()) return STATE;
        ways.gather(cell);
        if (ways.outlets == 0) return NONE;
        return leastTerm(ways.waterTop(cell), ways.flowTogether(), upper);
    }

    public long wayTime(int cell) {
        if (!land.hasCell(cell)) return UNKNOWN;
        if (!atRest()) return STATE;
        return ways.milliOfWay(cell);
    }

    public int zone(int well) {
        if (!land.wells.has(well)) return UNKNOWN;
        if (!atRest()) return STATE;
        return ways.zoneOf(well);
    }

    public int spill(int cell, int end) {
        if (!land.hasCell(cell) || !land.hasEnd(end)) return UNKNOWN;
        if (!atRest()) return STATE;
        return ways.partsThatReach(cell, end);
    }

    // ---- by ticks

    public int pour(int cell, int cups) {
        if (!land.hasCell(cell)) return UNKNOWN;
        if (outside(cups, 0, MAX_CUPS)) return BAD;
        this.cups.beginBooks();
        return exchange(this.cups.held, cell, cups);
    }

    public int cups(int cell) {
        if (!land.hasCell(cell)) return UNKNOWN;
        return cups.held[cell];
    }

    public int mark(int cell) {
        if (!land.hasCell(cell)) return UNKNOWN;
        return cups.markOf(cell);
    }

    public int tick(int n) {
        if (outside(n, 1, MAX_TICKS)) return BAD;
        for (int i = 0; i < n; i++) cups.passTick();
        return cups.allHeld();
    }

    public long book(int what) {
        if (outside(what, 0, BOOKS - 1)) return BAD;
        return cups.books[what];
    }

    // ---- worlds

    public int world(int link, int ease) {
        if (!land.links.has(link)) return UNKNOWN;
        if (outside(ease, 1, MAX_EASE)) return BAD;
        if (worlds.size >= MAX_WORLDS) return FULL;
        return worlds.add(link, ease);
    }

    public int see(int cell, int milli, int give) {
        if (!land.hasCell(cell)) return UNKNOWN;
        if (outside(milli, -MAX_SEEN, MAX_SEEN) || give > MAX_GIVE) return BAD;
        return worlds.note(cell, milli, give) ? 1 : 0;
    }

    public int left() {
        return worlds.thatAreLeft();
    }

    public int inWorld(int world, int cell) {
        if (!worlds.has(world) || !land.hasCell(cell)) return UNKNOWN;
        if (!worlds.settleIn(world)) return STATE;
        return worlds.rest.headMilli(cell);
    }

    public int next() {
        return worlds.nextTest();
    }

    public int alike(int cell) {
        if (!land.hasCell(cell)) return UNKNOWN;
        return worlds.mostAlike(worlds.thatAreLeft(), cell);
    }

    // ---- permits

    public int sign(int sign) {
        if (outside(sign, 32, 126)) return BAD;
        if (permit.size >= MAX_SIGNS) return FULL;
        return permit.append(sign);
    }

    public int wipe() {
        int before = permit.size;
        permit.size = 0;
        return before;
    }

    public int fault() {
        return permit.firstFault();
    }

    public int holds() {
        if (!permit.isPermit() || !atRest()) return STATE;
        return permit.holdsWith(land.wells.rate) ? 1 : 0;
    }

    // ---- plans, harm

    public int limit(int cell, int milli) {
        if (!land.hasCell(cell)) return UNKNOWN;
        if (milli != NONE && outside(milli, 0, MAX_LIMIT)) return BAD;
        return exchange(plans.limits, cell, milli);
    }

    public int worth() {
        return plans.findBest();
    }

    public int level(int well) {
        if (!land.wells.has(well)) return UNKNOWN;
        return plans.findBest() == NONE ? NONE : plans.bestLevels[well];
    }

    public int draw() {
        int best = plans.findBest();
        if (best != NONE) {
            for (int w = 0; w < land.wells.size; w++) {
                land.wells.rate[w] = land.wells.rateAt(w, plans.bestLevels[w]);
            }
        }
        return best;
    }

    public int price(int cell) {
        if (!land.hasCell(cell)) return UNKNOWN;
        int asIs = plans.limits[cell];
        if (asIs == NONE) return 0;
        int with = plans.findBest();
        if (with == NONE) return NONE;
        plans.limits[cell] = NONE;
        int without = plans.findBest();
        plans.limits[cell] = asIs;
        return without - with;
    }

    public int harm(int cell) {
        if (!land.hasCell(cell)) return UNKNOWN;
        return plans.harmAt(cell);
    }

    public int share(int cell, int well) {
        if (!land.hasCell(cell) || !land.wells.has(well)) return UNKNOWN;
        return plans.shareOf(cell, well);
    }

    public int count(int what) {
        switch (what) {
            case 0: return land.cells;
            case 1: return land.links.size;
            case 2: return land.rivers.size;
            case 3: return land.drains.size;
            case 4: return land.wells.size;
            case 5: return worlds.size;
            case 6: return permit.size;
            case 7: return worlds.seenCells();
            case 8: return land.wells.allRates();
            default: return BAD;
        }
    }

    // ---- what all parts use

    private boolean atRest() {
        return rest.settle(land.wells.rate);
    }

    private static boolean outside(int v, int least, int most) {
        return v < least || v > most;
    }

    /** Puts v at a place that the caller has looked at; what was there. */
    private static int exchange(int[] row, int place, int v) {
        int before = row[place];
        row[place] = v;
        return before;
    }

    /** The greatest whole number not above a thousand times top / below. */
    private static int milliOf(long top, long below) {
        return below < 1 ? 0 : (int) Math.floorDiv(1000 * top, below);
    }

    /** The same for a time, which may be far longer than an int tells. */
    private static long longMilliOf(long top, long below) {
        return below < 1 ? 0 : Math.floorDiv(1000 * top, below);
    }

    /** One side of top / below in least terms; below is 1 or more. */
    private static long leastTerm(long top, long below, boolean upper) {
        long common = commonDivisor(Math.abs(top), below);
        if (common < 1) return upper ? top : below;
        return (upper ? top : below) / common;
    }

    private static long commonDivisor(long a, long b) {
        // Euclid needs less than 100 steps for any two longs
        for (int i = 0; i < 100 && b != 0; i++) {
            long left = a % b;
            a = b;
            b = left;
        }
        return a;
    }

    /** The cells, and what lies in and between them. */
    private static final class Land {
        int cells = 0;
        final int[] bottom = new int[MAX_CELLS], rain = new int[MAX_CELLS], store = new int[MAX_CELLS];
        final Links links = new Links();
        final Rivers rivers = new Rivers();
        final Drains drains = new Drains();
        final Wells wells = new Wells();

        boolean hasCell(int c) {
            return c >= 0 && c < cells;
        }

        boolean hasEnd(int end) {
            return hasCell(end) || rivers.has(end - TO_RIVER) || drains.has(end - TO_DRAIN) || wells.has(end - TO_WELL);
        }

        int addCell(int floor, int wet, int room) {
            bottom[cells] = floor;
            rain[cells] = wet;
            store[cells] = room;
            return cells++;
        }

        /** The bits that a pattern of this land may have. */
        int patternBits() {
            return (1 << rivers.size) - 1 | (1 << drains.size) - 1 << FIRST_DRAIN_BIT;
        }
    }

    private static final class Links {
        int size = 0;
        final int[] from = new int[MAX_LINKS], to = new int[MAX_LINKS], ease = new int[MAX_LINKS];

        boolean has(int l) {
            return l >= 0 && l < size;
        }

        int add(int a, int b, int e) {
            from[size] = a;
            to[size] = b;
            ease[size] = e;
            return size++;
        }
    }

    private static final class Rivers {
        int size = 0;
        final int[] at = new int[MAX_RIVERS], stage = new int[MAX_RIVERS], bed = new int[MAX_RIVERS], ease = new int[MAX_RIVERS];

        boolean has(int r) {
            return r >= 0 && r < size;
        }

        int add(int c, int high, int low, int e) {
            at[size] = c;
            stage[size] = high;
            bed[size] = low;
            ease[size] = e;
            return size++;
        }
    }

    private static final class Drains {
        int size = 0;
        final int[] at = new int[MAX_DRAINS], lies = new int[MAX_DRAINS], ease = new int[MAX_DRAINS];

        boolean has(int d) {
            return d >= 0 && d < size;
        }

        int add(int c, int high, int e) {
            at[size] = c;
            lies[size] = high;
            ease[size] = e;
            return size++;
        }
    }

    private static final class Wells {
        int size = 0;
        final int[] at = new int[MAX_WELLS], cap = new int[MAX_WELLS], value = new int[MAX_WELLS], rate = new int[MAX_WELLS];

        boolean has(int w) {
            return w >= 0 && w < size;
        }

        int add(int c, int most, int each) {
            at[size] = c;
            cap[size] = most;
            value[size] = each;
            return size++;
        }

        int rateAt(int w, int step) {
            return cap[w] * step / TOP_LEVEL;
        }

        int allRates() {
            int sum = 0;
            for (int w = 0; w < size; w++) sum += rate[w];
            return sum;
        }
    }

    /** Where the water comes to rest with given rates of the wells. */
    private static final class Rest {
        private final Land land;
        // Of some patterns the inverse matrix times its determinant: whole
        // numbers, kept because rates and rain change far oftener than eases.
        private final int slots;
        private final int[] patternIn;
        private final long[][] inverse;
        private final long[] determinant;
        private final long[] sources = new long[MAX_CELLS];
        final long[] tops = new long[MAX_CELLS];
        long below = 1;
        int found = 0;

        Rest(Land land, int slots) {
            this.land = land;
            this.slots = Math.max(1, slots);
            patternIn = new int[this.slots];
            inverse = new long[this.slots][MAX_CELLS * MAX_CELLS];
            determinant = new long[this.slots];
            Arrays.fill(patternIn, NONE);
        }

        /** To be called when a cell, link, river or drain comes, or an ease changes. */
        void forget() {
            Arrays.fill(patternIn, NONE);
        }

        /**
         * Whether there is a rest; its pattern and heads are in the fields then.
         * No two patterns can fit: heads of two rests would differ by a rise of
         * whole parts of the land that no river and no drain feels, and then
         * the equations of the lower one have many solutions. So the search may
         * begin with the pattern that was found last.
         */
        boolean settle(int[] rates) {
            if (land.cells == 0 || slots < 1) return false;
            int bits = land.patternBits(), begin = found;
            for (int turn = 0; turn < PATTERNS; turn++) {
                if ((turn & ~bits) != 0) continue;
                int p = begin ^ turn, slot = p % slots;
                if (patternIn[slot] != p) invert(p, slot);
                if (determinant[slot] == 0) continue;
                below = determinant[slot];
                gatherSources(p, rates);
                if (fits(p, inverse[slot])) {
                    found = p;
                    return true;
                }
            }
            return false;
        }

        /** Whether the heads that solve the equations of a pattern have that pattern; they are kept then. */
        private boolean fits(int p, long[] m) {
            for (int r = 0; r < land.rivers.size; r++) {
                boolean tied = solve(m, land.rivers.at[r]) >= land.rivers.bed[r] * below;
                if (tied != ((p >> r & 1) == 1)) return false;
            }
            for (int d = 0; d < land.drains.size; d++) {
                boolean runs = solve(m, land.drains.at[d]) > land.drains.lies[d] * below;
                if (runs != ((p >> FIRST_DRAIN_BIT + d & 1) == 1)) return false;
            }
            for (int c = 0; c < land.cells; c++) tops[c] = solve(m, c);
            return true;
        }

        private long solve(long[] m, int c) {
            long sum = 0;
            for (int i = 0; i < land.cells; i++) sum += m[c * MAX_CELLS + i] * sources[i];
            return sum;
        }

        /** What comes to each cell, but for what depends on heads. */
        private void gatherSources(int p, int[] rates) {
            for (int c = 0; c < land.cells; c++) sources[c] = land.rain[c];
            Rivers rivers = land.rivers;
            for (int r = 0; r < rivers.size; r++) {
                boolean tied = (p >> r & 1) == 1;
                int rise = tied ? rivers.stage[r] : rivers.stage[r] - rivers.bed[r];
                sources[rivers.at[r]] += rivers.ease[r] * rise;
            }
            Drains drains = land.drains;
            for (int d = 0; d < drains.size; d++) {
                boolean runs = (p >> FIRST_DRAIN_BIT + d & 1) == 1;
                if (runs) sources[drains.at[d]] += drains.ease[d] * drains.lies[d];
            }
            for (int w = 0; w < land.wells.size; w++) sources[land.wells.at[w]] -= rates[w];
        }

        /**
         * Elimination without fractions (Bareiss, Jordan). The matrix is
         * symmetric and never negative, so a pivot of 0 means that the whole is
         * singular. Its eases together are 261 at most, so its determinant is
         * below 43.5 to the 6th, a minor of five sides below 52.2 to the 5th:
         * every product fits in a long.
         */
        private void invert(int p, int slot) {
            long[] m = inverse[slot];
            fillMatrix(m, p);
            long before = 1;
            for (int k = 0; k < land.cells && before != 0; k++) {
                long pivot = m[k * (MAX_CELLS + 1)];
                if (pivot != 0) eliminate(m, k, before);
                before = pivot;
            }
            determinant[slot] = before;
            patternIn[slot] = p;
        }

        private void fillMatrix(long[] m, int p) {
            Arrays.fill(m, 0);
            Links links = land.links;
            for (int l = 0; l < links.size; l++) {
                int a = links.from[l], b = links.to[l];
                m[a * (MAX_CELLS + 1)] += links.ease[l];
                m[b * (MAX_CELLS + 1)] += links.ease[l];
                m[a * MAX_CELLS + b] -= links.ease[l];
                m[b * MAX_CELLS + a] -= links.ease[l];
            }
            for (int r = 0; r < land.rivers.size; r++) {
                boolean tied = (p >> r & 1) == 1;
                if (tied) m[land.rivers.at[r] * (MAX_CELLS + 1)] += land.rivers.ease[r];
            }
            for (int d = 0; d < land.drains.size; d++) {
                boolean runs = (p >> FIRST_DRAIN_BIT + d & 1) == 1;
                if (runs) m[land.drains.at[d] * (MAX_CELLS + 1)] += land.drains.ease[d];
            }
        }

        private void eliminate(long[] m, int k, long before) {
            if (before == 0) return;
            int n = land.cells;
            long pivot = m[k * (MAX_CELLS + 1)];
            for (int i = 0; i < n; i++) {
                if (i == k) continue;
                long factor = m[i * MAX_CELLS + k];
                for (int j = 0; j < n; j++) {
                    if (j == k) continue;
                    int place = i * MAX_CELLS + j;
                    m[place] = (pivot * m[place] - factor * m[k * MAX_CELLS + j]) / before;
                }
                m[i * MAX_CELLS + k] = -factor;
            }
            m[k * (MAX_CELLS + 1)] = before;
        }

        long linkTop(int l) {
            return land.links.ease[l] * (tops[land.links.from[l]] - tops[land.links.to[l]]);
        }

        long riverTop(int r) {
            Rivers rivers = land.rivers;
            boolean tied = (found >> r & 1) == 1;
            long felt = tied ? tops[rivers.at[r]] : rivers.bed[r] * below;
            return rivers.ease[r] * (rivers.stage[r] * below - felt);
        }

        long drainTop(int d) {
            boolean runs = (found >> FIRST_DRAIN_BIT + d & 1) == 1;
            if (!runs) return 0;
            return land.drains.ease[d] * (tops[land.drains.at[d]] - land.drains.lies[d] * below);
        }

        long throughTop() {
            long sum = 0;
            for (int r = 0; r < land.rivers.size; r++) sum += Math.max(0, riverTop(r));
            for (int c = 0; c < land.cells; c++) sum += land.rain[c] * below;
            return sum;
        }

        boolean isDry(int c) {
            return tops[c] < land.bottom[c] * below;
        }

        int headMilli(int c) {
            return milliOf(tops[c], below);
        }
    }

    /** Ways of water in a land that has come to rest. */
    private static final class Ways {
        private final Land land;
        private final Rest rest;
        // The outlets of the cell gathered last: a cell or an end, and its flow.
        int outlets = 0;
        private final int[] target = new int[MAX_OUTLETS];
        private final long[] flowTop = new long[MAX_OUTLETS];
        private final int[] parts = new int[MAX_CELLS];

        Ways(Land land, Rest rest) {
            this.land = land;
            this.rest = rest;
        }

        void gather(int c) {
            outlets = 0;
            for (int l = 0; l < land.links.size; l++) {
                long top = rest.linkTop(l);
                if (land.links.from[l] == c) addOutlet(land.links.to[l], top);
                if (land.links.to[l] == c) addOutlet(land.links.from[l], -top);
            }
            for (int r = 0; r < land.rivers.size; r++) {
                if (land.rivers.at[r] == c) addOutlet(TO_RIVER + r, -rest.riverTop(r));
            }
            for (int d = 0; d < land.drains.size; d++) {
                if (land.drains.at[d] == c) addOutlet(TO_DRAIN + d, rest.drainTop(d));
            }
            for (int w = 0; w < land.wells.size; w++) {
                if (land.wells.at[w] == c) addOutlet(TO_WELL + w, land.wells.rate[w] * rest.below);
            }
        }

        private void addOutlet(int to, long top) {
            if (top <= 0 || outlets >= MAX_OUTLETS) return;
            target[outlets] = to;
            flowTop[outlets] = top;
            outlets++;
        }

        /** The first outlet of the greatest flow; NONE where there is no outlet. */
        private int mainOutlet() {
            int main = NONE;
            for (int i = 0; i < outlets; i++) {
                if (main == NONE || flowTop[i] > flowTop[main]) main = i;
            }
            return main;
        }

        /** Where the way goes from a cell: a cell, an end, or NONE. */
        private int onward(int c) {
            gather(c);
            int main = mainOutlet();
            return main == NONE ? NONE : target[main];
        }

        int cellOfWay(int c, int i) {
            if (i < 0 || i >= MAX_CELLS) return NONE;
            int here = c;
            for (int k = 0; k < i && land.hasCell(here); k++) here = onward(here);
            return land.hasCell(here) ? here : NONE;
        }

        int endOfWay(int c) {
            int here = c;
            // heads fall along a way, so it has no cell twice
            for (int k = 0; k < MAX_CELLS && land.hasCell(here); k++) here = onward(here);
            return here;
        }

        long flowTogether() {
            long sum = 0;
            for (int i = 0; i < outlets; i++) sum += flowTop[i];
            return sum;
        }

        long waterTop(int c) {
            return land.store[c] * Math.max(0, rest.tops[c] - land.bottom[c] * rest.below);
        }

        long milliOfWay(int c) {
            long sum = 0;
            int here = c;
            for (int k = 0; k < MAX_CELLS && land.hasCell(here); k++) {
                int then = onward(here);
                if (outlets > 0) sum += longMilliOf(waterTop(here), flowTogether());
                here = then;
            }
            return sum;
        }

        int zoneOf(int w) {
            if (land.wells.rate[w] == 0) return 0;
            int set = 1 << land.wells.at[w];
            for (int round = 0; round < MAX_CELLS; round++) set = withFeeders(set);
            return set;
        }

        private int withFeeders(int set) {
            int wider = set;
            for (int l = 0; l < land.links.size; l++) {
                long top = rest.linkTop(l);
                int from = 1 << land.links.from[l], to = 1 << land.links.to[l];
                if (top > 0 && (set & to) != 0) wider |= from;
                if (top < 0 && (set & from) != 0) wider |= to;
            }
            return wider;
        }

        int partsThatReach(int c, int end) {
            Arrays.fill(parts, 0);
            parts[c] = SPILL;
            int reached = 0, done = 0;
            for (int k = 0; k < land.cells; k++) {
                int here = highestBut(done);
                if (here == NONE) break;
                done |= 1 << here;
                gather(here);
                if (outlets > 0) reached += handOn(parts[here], end);
                else if (here == end) reached = parts[here];
            }
            return reached;
        }

        private int highestBut(int done) {
            int best = NONE;
            for (int c = 0; c < land.cells; c++) {
                if ((done >> c & 1) == 0 && (best == NONE || rest.tops[c] > rest.tops[best])) best = c;
            }
            return best;
        }

        /** Hands parts on by the outlets gathered; how many come to the end that is asked for. */
        private int handOn(int all, int end) {
            int reached = 0, over = all, main = mainOutlet();
            long together = flowTogether();
            for (int i = 0; i < outlets; i++) {
                int share = shareByFlow(all, flowTop[i], together);
                over -= share;
                reached += deliver(i, share, end);
            }
            return main == NONE ? reached : reached + deliver(main, over, end);
        }

        private int deliver(int outlet, int share, int end) {
            if (!land.hasCell(target[outlet])) return target[outlet] == end ? share : 0;
            parts[target[outlet]] += share;
            return 0;
        }

        /** all * flow / together, cut; in two steps, because the product would not fit in a long. */
        private static int shareByFlow(int all, long flow, long together) {
            if (together < 1) return 0;
            long first = flow * (all / 1000);
            long left = first % together * 1000 + flow * (all % 1000);
            return (int) (first / together * 1000 + left / together);
        }
    }

    /** The land by ticks, in whole cups. */
    private static final class Cups {
        private final Land land;
        final int[] held = new int[MAX_CELLS];
        final long[] books = new long[BOOKS];
        private final int[] marks = new int[MAX_CELLS];

        Cups(Land land) {
            this.land = land;
        }

        void beginBooks() {
            Arrays.fill(books, 0);
        }

        int markOf(int c) {
            int room = land.store[c];
            return room < 1 ? land.bottom[c] : held[c] / room + land.bottom[c];
        }

        int allHeld() {
            int sum = 0;
            for (int c = 0; c < land.cells; c++) sum += held[c];
            return sum;
        }

        void passTick() {
            for (int c = 0; c < land.cells; c++) marks[c] = markOf(c);
            for (int c = 0; c < land.cells; c++) {
                books[RAINED] += land.rain[c];
                arrive(c, land.rain[c]);
            }
            for (int r = 0; r < land.rivers.size; r++) runRiver(r);
            for (int l = 0; l < land.links.size; l++) runLink(l);
            for (int d = 0; d < land.drains.size; d++) {
                int c = land.drains.at[d];
                int above = Math.max(0, marks[c] - land.drains.lies[d]);
                books[DRAINS_TOOK] += leave(c, land.drains.ease[d] * above / 100);
            }
            for (int w = 0; w < land.wells.size; w++) {
                books[WELLS_TOOK] += leave(land.wells.at[w], land.wells.rate[w]);
            }
        }

        private void runRiver(int r) {
            Rivers rivers = land.rivers;
            int c = rivers.at[r];
            int given = rivers.ease[r] * (rivers.stage[r] - Math.max(marks[c], rivers.bed[r])) / 100;
            if (given < 0) {
                books[RIVERS_TOOK] += leave(c, -given);
            } else {
                books[RIVERS_GAVE] += given;
                arrive(c, given);
            }
        }

        private void runLink(int l) {
            int a = land.links.from[l], b = land.links.to[l];
            int moved = land.links.ease[l] * (marks[a] - marks[b]) / 100;
            if (moved < 0) arrive(a, leave(b, -moved));
            else arrive(b, leave(a, moved));
        }

        private void arrive(int c, int much) {
            int over = Math.max(0, held[c] + much - MAX_CUPS);
            held[c] += much - over;
            books[RAN_OFF] += over;
        }

        /** Takes as much as is there; how much that was. */
        private int leave(int c, int much) {
            int gone = Math.min(much, held[c]);
            held[c] -= gone;
            return gone;
        }
    }

    /** Worlds that may be, and what was seen. */
    private static final class Worlds {
        private final Land land;
        // a rest of its own, so that of the land as it is keeps what it knows;
        // it has one slot, because each world has other matrices
        final Rest rest;
        int size = 0;
        private final int[] changed = new int[MAX_WORLDS], ease = new int[MAX_WORLDS];
        private final int[] seen = new int[MAX_CELLS], give = new int[MAX_CELLS];
        private final int[][] millis = new int[MAX_WORLDS][MAX_CELLS];

        Worlds(Land land) {
            this.land = land;
            rest = new Rest(land, 1);
            Arrays.fill(give, -1);
        }

        boolean has(int w) {
            return w >= 0 && w < size;
        }

        int add(int l, int e) {
            changed[size] = l;
            ease[size] = e;
            return size++;
        }

        /** Whether something is seen there from now on. */
        boolean note(int c, int thousandths, int off) {
            seen[c] = thousandths;
            give[c] = Math.max(-1, off);
            return off >= 0;
        }

        private boolean isSeen(int c) {
            return give[c] >= 0;
        }

        int seenCells() {
            int sum = 0;
            for (int c = 0; c < land.cells; c++) if (isSeen(c)) sum++;
            return sum;
        }

        boolean settleIn(int w) {
            int[] eases = land.links.ease;
            int asIs = exchange(eases, changed[w], ease[w]);
            rest.forget();
            boolean settled = rest.settle(land.wells.rate);
            eases[changed[w]] = asIs;
            return settled;
        }

        /** The worlds left, as a set; their millis are in the rows then. */
        int thatAreLeft() {
            int set = 0;
            for (int w = 0; w < size; w++) {
                if (settleIn(w) && agrees(w)) set |= 1 << w;
            }
            return set;
        }

        private boolean agrees(int w) {
            boolean so = true;
            for (int c = 0; c < land.cells; c++) {
                int here = rest.headMilli(c);
                millis[w][c] = here;
                if (isSeen(c) && Math.abs(here - seen[c]) > give[c]) so = false;
            }
            return so;
        }

        int mostAlike(int set, int c) {
            int most = 0;
            for (int w = 0; w < size; w++) {
                int like = 0;
                for (int v = 0; v < size; v++) {
                    if ((set >> v & 1) == 1 && millis[v][c] == millis[w][c]) like++;
                }
                if ((set >> w & 1) == 1) most = Math.max(most, like);
            }
            return most;
        }

        int nextTest() {
            int set = thatAreLeft(), best = NONE, least = 0;
            if (set == 0) return NONE;
            for (int c = 0; c < land.cells; c++) {
                if (isSeen(c)) continue;
                int most = mostAlike(set, c);
                if (best == NONE || most < least) {
                    best = c;
                    least = most;
                }
            }
            return best;
        }
    }

    /** A permit as a row of signs. */
    private static final class Permit {
        // what may stand at the next sign
        private static final int ONE = 0, NAME = 1, COMPARE = 2, NUMBER = 3, DIGIT = 4, MORE = 5, BEHIND = 6, WRONG = 7;
        private static final int MAX_DIGITS = 7;

        private final Land land;
        private final Rest rest;
        int size = 0;
        private final int[] signs = new int[MAX_SIGNS];
        private int depth = 0, digits = 0, letter = 0;
        // of each open bracket: the alls that are over, the one that goes on, a not ahead
        private final boolean[] any = new boolean[MAX_SIGNS + 1], all = new boolean[MAX_SIGNS + 1], not = new boolean[MAX_SIGNS + 1];
        private int place = 0;

        Permit(Land land, Rest rest) {
            this.land = land;
            this.rest = rest;
        }

        int append(int s) {
            signs[size++] = s;
            return size;
        }

        boolean isPermit() {
            return size > 0 && firstFault() == NONE;
        }

        int firstFault() {
            if (size == 0) return NONE;
            int may = ONE;
            depth = 0;
            for (int i = 0; i < size; i++) {
                may = after(may, signs[i]);
                if (may == WRONG) return i;
            }
            return (may == MORE || may == BEHIND) && depth == 0 ? NONE : size;
        }

        private int after(int may, int s) {
            switch (may) {
                case ONE: return afterOne(s);
                case NAME: return isDigit(s) && isThere(s - '0') ? COMPARE : WRONG;
                case COMPARE: return s == '<' || s == '>' || s == '=' ? NUMBER : WRONG;
                case NUMBER:
                    digits = 0;
                    return s == '-' ? DIGIT : afterNumber(s);
                case DIGIT: return afterNumber(s);
                case MORE: return isDigit(s) ? afterNumber(s) : afterBehind(s);
                default: return afterBehind(s);
            }
        }

        private int afterOne(int s) {
            if (s == '!') return ONE;
            if (s == '(') {
                depth++;
                return ONE;
            }
            letter = s;
            return s == 'h' || s == 'q' || s == 'g' || s == 'd' || s == 'f' ? NAME : WRONG;
        }

        private int afterNumber(int s) {
            if (!isDigit(s) || digits >= MAX_DIGITS) return WRONG;
            digits++;
            return MORE;
        }

        private int afterBehind(int s) {
            if (s == '&' || s == '|') return ONE;
            if (s != ')' || depth == 0) return WRONG;
            depth--;
            return BEHIND;
        }

        private static boolean isDigit(int s) {
            return s >= '0' && s <= '9';
        }

        private boolean isThere(int number) {
            switch (letter) {
                case 'h': return land.hasCell(number);
                case 'q': return land.wells.has(number);
                case 'g': return land.rivers.has(number);
                case 'd': return land.drains.has(number);
                default: return land.links.has(number);
            }
        }

        /** Whether a permit without fault holds, with the heads in the rest and these rates. */
        boolean holdsWith(int[] rates) {
            depth = 0;
            open();
            place = 0;
            for (int turn = 0; turn < MAX_SIGNS && place < size; turn++) {
                int s = signs[place++];
                if (s == '!') {
                    not[depth] = !not[depth];
                } else if (s == '(') {
                    if (depth < MAX_SIGNS) depth++;
                    open();
                } else if (s == ')') {
                    boolean inside = any[depth] || all[depth];
                    if (depth > 0) depth--;
                    put(inside);
                } else if (s == '|') {
                    any[depth] = any[depth] || all[depth];
                    all[depth] = true;
                } else if (s != '&') {
                    put(ask(s, rates));
                }
            }
            return any[depth] || all[depth];
        }

        private void open() {
            any[depth] = false;
            all[depth] = true;
            not[depth] = false;
        }

        private void put(boolean one) {
            if (one == not[depth]) all[depth] = false;
            not[depth] = false;
        }

        private boolean ask(int what, int[] rates) {
            letter = what;
            int number = nextSign() - '0', compare = nextSign();
            if (!isThere(number)) return false;
            int value = valueOf(number, rates), asked = readNumber();
            if (compare == '<') return value < asked;
            if (compare == '>') return value > asked;
            return value == asked;
        }

        private int nextSign() {
            return place < size ? signs[place++] : 0;
        }

        private int readNumber() {
            boolean minus = place < size && signs[place] == '-';
            if (minus) place++;
            int sum = 0;
            for (int i = 0; i < MAX_DIGITS && place < size && isDigit(signs[place]); i++) {
                sum = sum * 10 + signs[place++] - '0';
            }
            return minus ? -sum : sum;
        }

        private int valueOf(int number, int[] rates) {
            switch (letter) {
                case 'h': return milliOf(rest.tops[number], rest.below);
                case 'q': return rates[number];
                case 'g': return milliOf(rest.riverTop(number), rest.below);
                case 'd': return milliOf(rest.drainTop(number), rest.below);
                default: return milliOf(rest.linkTop(number), rest.below);
            }
        }
    }

    /** Plans of pumping within limits and the permit, and the harm that wells do. */
    private static final class Plans {
        private final Land land;
        private final Rest rest;
        private final Permit permit;
        final int[] limits = new int[MAX_CELLS];
        final int[] bestLevels = new int[MAX_WELLS];
        private final int[] levels = new int[MAX_WELLS], rates = new int[MAX_WELLS];
        private final int[] millis = new int[1 << MAX_WELLS];

        Plans(Land land, Rest rest, Permit permit) {
            this.land = land;
            this.rest = rest;
            this.permit = permit;
            Arrays.fill(limits, NONE);
        }

        /** What the best plan is worth, or NONE; its levels are in the row then. */
        int findBest() {
            boolean asks = permit.isPermit();
            int best = NONE, bestRates = 0, all = 1;
            for (int w = 0; w < land.wells.size; w++) all *= LEVELS;
            for (int number = 0; number < all; number++) {
                setLevels(number);
                int gain = gainOf(), sum = sumOfRates();
                // plans come in the order of their levels: a like one is no better
                boolean better = best == NONE || gain > best || gain == best && sum < bestRates;
                if (better && mayBe(asks)) {
                    best = gain;
                    bestRates = sum;
                    System.arraycopy(levels, 0, bestLevels, 0, MAX_WELLS);
                }
            }
            return best;
        }

        private void setLevels(int number) {
            int left = number;
            for (int w = land.wells.size - 1; w >= 0; w--) {
                levels[w] = left % LEVELS;
                left /= LEVELS;
                rates[w] = land.wells.rateAt(w, levels[w]);
            }
        }

        private int gainOf() {
            int sum = 0;
            for (int w = 0; w < land.wells.size; w++) sum += rates[w] * land.wells.value[w];
            return sum;
        }

        private int sumOfRates() {
            int sum = 0;
            for (int w = 0; w < land.wells.size; w++) sum += rates[w];
            return sum;
        }

        private boolean mayBe(boolean asks) {
            if (!rest.settle(rates)) return false;
            for (int c = 0; c < land.cells; c++) {
                if (rest.isDry(c)) return false;
                if (limits[c] != NONE && rest.headMilli(c) < limits[c]) return false;
            }
            return !asks || permit.holdsWith(rates);
        }

        /** Milli of a head, if only the wells of a set take their rates; STATE: no rest. */
        private int milliWith(int set, int c) {
            for (int w = 0; w < land.wells.size; w++) {
                rates[w] = (set >> w & 1) == 1 ? land.wells.rate[w] : 0;
            }
            return rest.settle(rates) ? rest.headMilli(c) : STATE;
        }

        int harmAt(int c) {
            int without = milliWith(0, c), with = milliWith((1 << land.wells.size) - 1, c);
            return without == STATE || with == STATE ? STATE : without - with;
        }

        int shareOf(int c, int well) {
            int wells = land.wells.size;
            for (int set = 0; set < 1 << wells; set++) {
                millis[set] = milliWith(set, c);
                if (millis[set] == STATE) return STATE;
            }
            int sum = 0;
            for (int set = 0; set < 1 << wells; set++) {
                if ((set >> well & 1) == 0) sum += ordersBehind(set) * (millis[set] - millis[set | 1 << well]);
            }
            return sum * (FACTORIAL[MAX_WELLS] / FACTORIAL[wells]);
        }

        /** In how many orders of all wells just this set comes ahead of a well. */
        private int ordersBehind(int set) {
            int ahead = Integer.bitCount(set);
            return FACTORIAL[ahead] * FACTORIAL[land.wells.size - 1 - ahead];
        }
    }
}
