/** Promises 11 to 19, sentence by sentence: each boundary case that the document names has a test of its own here. */
public final class EdgesRestTest {
    private static final Check CHECK = new Check("EdgesRestTest");
    private static final int UNKNOWN = Lands.UNKNOWN, STATE = Lands.STATE, NONE = Lands.NONE;

    public static void main(String[] args) {
        bitsOfRivers();
        bitsOfDrains();
        allBits();
        tiedAtTheBed();
        hangsBelowTheBed();
        restsAtTheLevel();
        runsAboveTheLevel();
        justOneSolution();
        nothingHolds();
        onePartIsNotHeld();
        hangingRiversHoldNothing();
        restComesAndGoes();
        leastTerms();
        aHeadOfNothing();
        headsBelowNothing();
        milliNotAbove();
        greatestHead();
        leastHead();
        sidesBeyondAnInt();
        flowOfStillWater();
        flowBack();
        givesAtTheStage();
        givesAtTheBed();
        takesAtTheLevel();
        dryBelowTheBottom();
        saltAtNothing();
        throughOfNothing();
        throughWithoutRiversThatTake();
        refusals();
        CHECK.covers(11, 19);
        CHECK.end();
    }

    private static void due(int promise, String call, long got, long want) {
        CHECK.due(promise, call, got, want);
    }

    private static GroundWaters oneCell(int bottom, int rain) {
        GroundWaters x = new GroundWaters();
        x.cell(bottom, rain, 1);
        return x;
    }

    /** A river of ease 5 in cell 0, links of 7, 8, 9 to cell 3 and its well: h3 = stage - rate * 1459 / 2520. */
    private static GroundWaters row(int stage) {
        GroundWaters x = new GroundWaters();
        for (int i = 0; i < 4; i++) x.cell(0, 0, 1);
        x.river(0, stage, 0, 5);
        x.link(0, 1, 7);
        x.link(1, 2, 8);
        x.link(2, 3, 9);
        x.well(3, 99, 1);
        return x;
    }

    /** Terms 1: "PATTERN (which RIVERS are TIED, bit by number". */
    private static void bitsOfRivers() {
        for (int tied = 0; tied < 3; tied++) {
            GroundWaters x = oneCell(0, 0);
            for (int r = 0; r < 3; r++) x.river(0, r == tied ? 10 : 1000, r == tied ? 0 : 1000, 1);
            due(11, "pattern(): river " + tied + " alone is tied", x.pattern(), 1 << tied);
        }
    }

    /** Terms 1: "and which DRAINS RUN, bits 3, 4)", though there be no rivers. */
    private static void bitsOfDrains() {
        for (int runs = 0; runs < 2; runs++) {
            GroundWaters x = oneCell(0, 5);
            for (int d = 0; d < 2; d++) x.drain(0, d == runs ? 10 : 1000, 1);
            due(11, "pattern(): drain " + runs + " alone runs", x.pattern(), 8 << runs);
        }
    }

    private static void allBits() {
        GroundWaters x = oneCell(0, 1);
        for (int r = 0; r < 3; r++) x.river(0, 10, 0, 1);
        for (int d = 0; d < 2; d++) x.drain(0, 0, 1);
        // 31 - 5 h = 0
        due(11, "pattern() of all", x.pattern(), 31);
        due(12, "head(0, true) of all", x.head(0, true), 31);
        due(12, "head(0, false) of all", x.head(0, false), 5);
    }

    /** A second river, its bed at 0, holds the water where the first one, bed 40, hangs. */
    private static GroundWaters twoRivers(int rate) {
        GroundWaters x = oneCell(0, 0);
        x.river(0, 50, 40, 1);
        x.river(0, 50, 0, 1);
        x.well(0, 99, 0);
        x.rate(0, rate);
        return x;
    }

    /** Terms 1: "a RIVER is TIED, if h is its BED at least". */
    private static void tiedAtTheBed() {
        GroundWaters x = twoRivers(20);
        due(11, "pattern() with a head at the bed", x.pattern(), 3);
        due(12, "head(0, true) at the bed", x.head(0, true), 40);
        GroundWaters y = oneCell(0, 0);
        y.river(0, 25, 25, 4);
        due(11, "pattern() with stage and bed in one", y.pattern(), 1);
        due(13, "milli(0)", y.milli(0), 25000);
        GroundWaters z = oneCell(0, 0);
        z.river(0, 0, 0, 1);
        due(11, "pattern() with stage and bed at 0", z.pattern(), 1);
        due(13, "milli(0)", z.milli(0), 0);
    }

    /** Terms 1: "else it HANGS, and gives e (STAGE - BED)". */
    private static void hangsBelowTheBed() {
        GroundWaters x = twoRivers(21);
        due(11, "pattern() with a head below the bed", x.pattern(), 2);
        due(12, "head(0, true): 10 from above, 11 from the other", x.head(0, true), 39);
        due(15, "gives(0) that hangs", x.gives(0), 10000);
        x.rate(0, 60);
        due(11, "pattern() far below the bed", x.pattern(), 2);
        due(15, "gives(0) that hangs: no more", x.gives(0), 10000);
        due(12, "head(0, true) at the other bed", x.head(0, true), 0);
        x.rate(0, 61);
        due(11, "pattern() below both beds", x.pattern(), NONE);
    }

    /** Terms 1: "a DRAIN RUNS, if h is above its LEVEL .. else nothing": not at it. */
    private static void restsAtTheLevel() {
        GroundWaters x = oneCell(0, 0);
        x.river(0, 10, 0, 9);
        x.drain(0, 10, 9);
        due(11, "pattern() with a head at the level", x.pattern(), 1);
        due(16, "takes(0) at the level", x.takes(0), 0);
        x.stage(0, 9);
        due(11, "pattern() with a head below the level", x.pattern(), 1);
        due(16, "takes(0) below the level", x.takes(0), 0);
        due(13, "milli(0)", x.milli(0), 9000);
    }

    private static void runsAboveTheLevel() {
        GroundWaters x = oneCell(0, 1);
        x.river(0, 10, 0, 9);
        x.drain(0, 10, 9);
        due(11, "pattern() with a head a little above the level", x.pattern(), 9);
        due(12, "head(0, true): 10 and 1/18", x.head(0, true), 181);
        due(12, "head(0, false)", x.head(0, false), 18);
        due(16, "takes(0): a half", x.takes(0), 500);
    }

    /** Terms 1: "if these have just one solution": many are none. */
    private static void justOneSolution() {
        GroundWaters x = oneCell(0, 5);
        x.well(0, 5, 0);
        x.rate(0, 5);
        due(11, "pattern(): a well takes the rain, any head will do", x.pattern(), NONE);
        GroundWaters y = oneCell(0, 0);
        y.drain(0, 20, 3);
        due(11, "pattern(): any head below a drain will do", y.pattern(), NONE);
        GroundWaters z = oneCell(0, 0);
        z.river(0, 30, 20, 1);
        z.well(0, 10, 0);
        z.rate(0, 10);
        // any head below 20 will do where it hangs; tied there is one, 20
        due(11, "pattern(): many heads where it hangs, just one where it is tied", z.pattern(), 1);
        due(12, "head(0, true)", z.head(0, true), 20);
        due(12, "head(0, false)", z.head(0, false), 1);
    }

    /** Terms 1: "There may be none (NO REST): where nothing holds the water." */
    private static void nothingHolds() {
        GroundWaters x = oneCell(0, 0);
        due(11, "pattern() of a cell alone", x.pattern(), NONE);
        x.rain(0, 99);
        due(11, "pattern() of a cell with rain", x.pattern(), NONE);
        x.cell(0, 0, 1);
        x.link(0, 1, 9);
        due(11, "pattern() of two cells with a link", x.pattern(), NONE);
        x.well(1, 99, 0);
        x.rate(0, 99);
        due(11, "pattern(): rain on one side, a well on the other", x.pattern(), NONE);
        x.drain(1, 1000, 1);
        due(11, "pattern(): all that comes is taken ahead of the drain", x.pattern(), NONE);
        x.rate(0, 98);
        due(11, "pattern(): one cup is left for the drain", x.pattern(), 8);
        due(13, "milli(1)", x.milli(1), 1001000);
        due(13, "milli(0)", x.milli(0), 1012000);
    }

    private static void onePartIsNotHeld() {
        GroundWaters x = Lands.pond();
        due(11, "pattern()", x.pattern(), 1);
        x.cell(0, 0, 1);
        due(11, "pattern() with a cell apart", x.pattern(), NONE);
        due(13, "milli(0): the held part has none either", x.milli(0), STATE);
        x.link(0, 1, 1);
        due(11, "pattern() with a link to it", x.pattern(), 1);
        due(13, "milli(1)", x.milli(1), 100000);
    }

    private static void hangingRiversHoldNothing() {
        GroundWaters x = oneCell(0, 0);
        for (int r = 0; r < 3; r++) x.river(0, 1000, 500, 9);
        x.well(0, 99, 0);
        x.well(0, 99, 0);
        x.rate(0, 99);
        x.rate(1, 99);
        // 27 (1000 - h) = 198
        due(11, "pattern() of three rivers", x.pattern(), 7);
        due(12, "head(0, true)", x.head(0, true), 2978);
        due(12, "head(0, false)", x.head(0, false), 3);
        for (int r = 0; r < 3; r++) x.stage(r, 500);
        due(11, "pattern() with all stages at their beds", x.pattern(), NONE);
    }

    private static void restComesAndGoes() {
        GroundWaters x = Lands.pond();
        x.well(0, 99, 0);
        x.stage(0, 50);
        x.rate(0, 50);
        due(13, "milli(0) at the bed", x.milli(0), 0);
        x.rate(0, 51);
        due(13, "milli(0) below it", x.milli(0), STATE);
        due(11, "pattern() below it", x.pattern(), NONE);
        x.rate(0, 49);
        due(13, "milli(0) above it", x.milli(0), 1000);
        due(11, "pattern() above it", x.pattern(), 1);
    }

    /** Terms 1: "told in least terms: above, below (1 and more)". */
    private static void leastTerms() {
        GroundWaters x = oneCell(0, 0);
        x.river(0, 10, 0, 6);
        x.well(0, 99, 0);
        x.rate(0, 4);
        due(12, "head(0, true): 56/6", x.head(0, true), 28);
        due(12, "head(0, false): 56/6", x.head(0, false), 3);
        x.rate(0, 3);
        due(12, "head(0, true): 57/6", x.head(0, true), 19);
        due(12, "head(0, false): 57/6", x.head(0, false), 2);
        x.rate(0, 5);
        due(12, "head(0, true): 55/6", x.head(0, true), 55);
        due(12, "head(0, false): 55/6", x.head(0, false), 6);
        x.rate(0, 6);
        due(12, "head(0, true) of a whole number", x.head(0, true), 9);
        due(12, "head(0, false) of a whole number", x.head(0, false), 1);
    }

    private static void aHeadOfNothing() {
        GroundWaters x = oneCell(0, 0);
        x.river(0, 10, 0, 6);
        x.well(0, 99, 0);
        x.rate(0, 60);
        due(12, "head(0, true) of 0", x.head(0, true), 0);
        due(12, "head(0, false) of 0: 1", x.head(0, false), 1);
        due(13, "milli(0) of 0", x.milli(0), 0);
    }

    private static void headsBelowNothing() {
        GroundWaters x = row(11);
        x.rate(0, 19);
        due(12, "head(3, true) of -1/2520", x.head(3, true), -1);
        due(12, "head(3, false) of -1/2520: below is never below 0", x.head(3, false), 2520);
        x.stage(0, 12);
        due(12, "head(3, true) of 2519/2520", x.head(3, true), 2519);
        due(12, "head(3, false) of 2519/2520", x.head(3, false), 2520);
    }

    /** Terms 1: "MILLI of one: the greatest whole number that is not above a thousand times it." */
    private static void milliNotAbove() {
        GroundWaters x = row(11);
        x.rate(0, 19);
        due(13, "milli(3) of -1/2520", x.milli(3), -1);
        x.stage(0, 12);
        due(13, "milli(3) of 2519/2520", x.milli(3), 999);
        x.stage(0, 10);
        due(13, "milli(3) of -2521/2520", x.milli(3), -1001);
        x.rate(0, 0);
        due(13, "milli(3) of a whole number", x.milli(3), 10000);
    }

    /** Rain of 99 in six cells in a row that a river of ease 1 at 1000 takes: no head can be higher than this one. */
    private static void greatestHead() {
        GroundWaters x = new GroundWaters();
        for (int i = 0; i < 6; i++) x.cell(0, 99, 9);
        for (int i = 0; i < 5; i++) x.link(i, i + 1, 1);
        x.river(0, 1000, 0, 1);
        due(12, "head(5, true)", x.head(5, true), 1000 + 594 + 495 + 396 + 297 + 198 + 99);
        due(13, "milli(5)", x.milli(5), 3079000);
        due(14, "flow(0)", x.flow(0), -495000);
        due(15, "gives(0)", x.gives(0), -594000);
        due(17, "dry(5)", x.dry(5), 0);
        due(18, "salt(5)", x.salt(5), -123160000);
        due(19, "through(true)", x.through(true), 594);
    }

    /** Three wells of 99 at the other end of such a row. */
    private static void leastHead() {
        GroundWaters x = new GroundWaters();
        for (int i = 0; i < 6; i++) x.cell(0, 0, 9);
        for (int i = 0; i < 5; i++) x.link(i + 1, i, 1);
        x.river(0, 33, 0, 9);
        for (int w = 0; w < 3; w++) {
            x.well(5, 99, 0);
            x.rate(w, 99);
        }
        due(11, "pattern() at the bed", x.pattern(), 1);
        due(12, "head(5, true)", x.head(5, true), -1485);
        due(13, "milli(5)", x.milli(5), -1485000);
        due(14, "flow(4)", x.flow(4), -297000);
        due(15, "gives(0)", x.gives(0), 297000);
        due(17, "dry(5)", x.dry(5), 1);
        due(18, "salt(5)", x.salt(5), 59400000);
        due(19, "through(true)", x.through(true), 297);
    }

    /** Heads and what goes through are told as longs: their sides do not wrap around. */
    private static void sidesBeyondAnInt() {
        GroundWaters x = new GroundWaters();
        int[] rains = {18, 50, 21, 91, 61, 35};
        for (int rain : rains) x.cell(0, rain, 1);
        int[][] links = {{1, 0, 9}, {2, 0, 9}, {3, 0, 8}, {4, 0, 9}, {5, 1, 7}, {2, 5, 7}, {1, 2, 8}, {5, 3, 9}, {1, 4, 8}, {3, 2, 9}, {4, 3, 9}, {0, 5, 7}};
        for (int[] l : links) x.link(l[0], l[1], l[2]);
        x.river(3, 971, 68, 9);
        x.river(1, 974, 65, 9);
        x.river(2, 955, 84, 8);
        x.drain(0, 963, 9);
        x.drain(4, 937, 9);
        // worked out by fractions without bound
        due(11, "pattern()", x.pattern(), 31);
        long[] above = {168080204782L, 336968379667L, 1344208590109L, 1348089401161L, 1338168597435L, 336988074505L};
        long[] below = {173921789, 347843578, 1391374312, 1391374312, 1391374312, 347843578};
        for (int c = 0; c < 6; c++) {
            due(12, "head(" + c + ", true) beyond an int", x.head(c, true), above[c]);
            due(12, "head(" + c + ", false)", x.head(c, false), below[c]);
        }
        due(13, "milli(3)", x.milli(3), 968890);
        due(18, "salt(3)", x.salt(3), -38755622);
        due(19, "through(true) beyond an int", x.through(true), 476360363211L);
        due(19, "through(false)", x.through(false), 1391374312);
    }

    private static void flowOfStillWater() {
        GroundWaters x = row(11);
        due(14, "flow(0) of still water", x.flow(0), 0);
        due(14, "flow(2) of still water", x.flow(2), 0);
        x.rate(0, 1);
        due(14, "flow(0) with a rate of 1", x.flow(0), 1000);
        due(14, "flow(2) with a rate of 1", x.flow(2), 1000);
    }

    /** Promise 14: "(below 0: back)", cut downwards too. */
    private static void flowBack() {
        GroundWaters x = new GroundWaters();
        x.cell(0, 1, 1);
        x.cell(0, 0, 1);
        for (int i = 0; i < 3; i++) x.link(1, 0, 1);
        x.river(1, 5, 0, 1);
        due(14, "flow(0): a third goes back", x.flow(0), -334);
        x.rain(0, 3);
        due(14, "flow(0): 1 goes back", x.flow(0), -1000);
        x.rain(0, 0);
        due(14, "flow(0): nothing goes", x.flow(0), 0);
        x.well(0, 9, 0);
        x.rate(0, 1);
        due(14, "flow(0): a third goes", x.flow(0), 333);
    }

    /** Promise 15: "MILLI of what a RIVER gives": 0 at its stage, below 0 above it. */
    private static void givesAtTheStage() {
        GroundWaters x = oneCell(0, 0);
        x.river(0, 10, 0, 3);
        x.river(0, 10, 0, 6);
        due(15, "gives(0) at the stage", x.gives(0), 0);
        x.rain(0, 1);
        due(15, "gives(0) above the stage: a third is taken", x.gives(0), -334);
        due(15, "gives(1) above the stage: two thirds are taken", x.gives(1), -667);
        x.rain(0, 0);
        x.well(0, 9, 0);
        x.rate(0, 1);
        due(15, "gives(0) below the stage: a third", x.gives(0), 333);
        due(15, "gives(1) below the stage: two thirds", x.gives(1), 666);
    }

    private static void givesAtTheBed() {
        GroundWaters x = twoRivers(19);
        due(15, "gives(0) above the bed", x.gives(0), 9500);
        x.rate(0, 20);
        due(15, "gives(0) at the bed", x.gives(0), 10000);
        x.rate(0, 21);
        due(15, "gives(0) below the bed", x.gives(0), 10000);
        due(15, "gives(1): the other one goes on", x.gives(1), 11000);
        GroundWaters y = oneCell(0, 0);
        y.river(0, 60, 60, 9);
        y.river(0, 50, 0, 1);
        due(15, "gives(0) that hangs with its stage at its bed", y.gives(0), 0);
        due(11, "pattern()", y.pattern(), 2);
    }

    private static void takesAtTheLevel() {
        GroundWaters x = oneCell(0, 0);
        x.river(0, 10, 0, 1);
        x.drain(0, 10, 2);
        x.drain(0, 9, 2);
        // 10 - h = 2 (h - 9): h = 28/3
        due(16, "takes(0) below its level", x.takes(0), 0);
        due(16, "takes(1) above its level: two thirds", x.takes(1), 666);
        x.rain(0, 1);
        // 11 - h = 2 (h - 9): h = 29/3, below 10
        due(16, "takes(0) below its level", x.takes(0), 0);
        x.rain(0, 2);
        due(16, "takes(0) at its level", x.takes(0), 0);
        due(16, "takes(1)", x.takes(1), 2000);
        due(11, "pattern() at its level", x.pattern(), 17);
        x.rain(0, 3);
        due(16, "takes(0) above its level", x.takes(0), 400);
        due(11, "pattern() above its level", x.pattern(), 25);
    }

    /** Terms 1: "A CELL is DRY, if its HEAD is below its BOTTOM": not at it. */
    private static void dryBelowTheBottom() {
        GroundWaters x = oneCell(100, 0);
        x.river(0, 100, 0, 1);
        due(17, "dry(0) at its bottom", x.dry(0), 0);
        x.stage(0, 99);
        due(17, "dry(0) below its bottom", x.dry(0), 1);
        x.stage(0, 101);
        due(17, "dry(0) above its bottom", x.dry(0), 0);
        GroundWaters y = row(11);
        y.rate(0, 19);
        due(17, "dry(3): 1/2520 below its bottom", y.dry(3), 1);
        due(17, "dry(2)", y.dry(2), 0);
        y.rate(0, 0);
        y.stage(0, 0);
        due(17, "dry(3) at a bottom of 0", y.dry(3), 0);
    }

    /** Terms 1: "its EDGE is at 0 less 40 times the HEAD". */
    private static void saltAtNothing() {
        GroundWaters x = row(11);
        x.rate(0, 19);
        due(18, "salt(3) of -1/2520: 40000/2520", x.salt(3), 15);
        x.stage(0, 12);
        due(18, "salt(3) of 2519/2520: not above it", x.salt(3), -39985);
        x.rate(0, 0);
        x.stage(0, 0);
        due(18, "salt(3) of 0", x.salt(3), 0);
        x.stage(0, 1);
        due(18, "salt(3) of 1", x.salt(3), -40000);
    }

    private static void throughOfNothing() {
        GroundWaters x = Lands.pond();
        due(19, "through(true) of nothing", x.through(true), 0);
        due(19, "through(false) of nothing: 1", x.through(false), 1);
        x.rain(0, 5);
        due(19, "through(true): rain", x.through(true), 5);
        due(19, "through(false): rain", x.through(false), 1);
    }

    /** Promise 19: "from RIVERS that give and as RAIN": not less what others take, and from rivers that hang as well. */
    private static void throughWithoutRiversThatTake() {
        GroundWaters x = oneCell(0, 0);
        x.river(0, 30, 0, 1);
        x.river(0, 10, 0, 2);
        // h = 50/3: the first gives 40/3, the other takes it
        due(19, "through(true) from one river to another", x.through(true), 40);
        due(19, "through(false)", x.through(false), 3);
        GroundWaters y = twoRivers(21);
        due(19, "through(true) with a river that hangs", y.through(true), 21);
        GroundWaters z = oneCell(0, 7);
        z.river(0, 10, 0, 1);
        z.drain(0, 0, 1);
        // 17 - h = h: the river gives 3/2
        due(19, "through(true) of rain and a river", z.through(true), 17);
        due(19, "through(false)", z.through(false), 2);
    }

    /** Promises 12 to 19: "UNKNOWN; STATE", told as longs likewise. */
    private static void refusals() {
        GroundWaters x = oneCell(0, 0);
        due(12, "head(1, true)", x.head(1, true), -10000001L);
        due(12, "head(1, false)", x.head(1, false), -10000001L);
        due(12, "head(0, true)", x.head(0, true), -10000003L);
        due(12, "head(0, false)", x.head(0, false), -10000003L);
        due(13, "milli(1)", x.milli(1), UNKNOWN);
        due(13, "milli(0)", x.milli(0), STATE);
        due(14, "flow(0) without links", x.flow(0), UNKNOWN);
        due(15, "gives(0) without rivers", x.gives(0), UNKNOWN);
        due(16, "takes(0) without drains", x.takes(0), UNKNOWN);
        due(17, "dry(1)", x.dry(1), UNKNOWN);
        due(17, "dry(0)", x.dry(0), STATE);
        due(18, "salt(1)", x.salt(1), UNKNOWN);
        due(18, "salt(0)", x.salt(0), STATE);
        due(19, "through(true)", x.through(true), -10000003L);
        due(19, "through(false)", x.through(false), -10000003L);
    }
}
