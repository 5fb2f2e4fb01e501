/** Promises 41 to 48, sentence by sentence: each boundary case that the document names has a test of its own here. */
public final class EdgesPlansTest {
    private static final Check CHECK = new Check("EdgesPlansTest");
    private static final int UNKNOWN = Lands.UNKNOWN, BAD = Lands.BAD, STATE = Lands.STATE, NONE = Lands.NONE;
    private static final int MIN = Lands.MIN, MAX = Lands.MAX;

    public static void main(String[] args) {
        limitsFromNothingToMost();
        limitsAtFirst();
        levelsAreCut();
        levelsOfSmallCaps();
        withoutWells();
        restWithTheRatesOfThePlan();
        noCellIsDry();
        atItsLimitAtLeast();
        milliAtTheLimit();
        everyLimitCounts();
        aPermitThatNeverHolds();
        aPermitAtItsEdge();
        aPermitWithAFault();
        worthMost();
        leastRatesOfLikeOnes();
        firstLevelsOfLikeOnes();
        levelsWithoutAPlan();
        drawsDownAndUp();
        drawsNothing();
        pricesWithoutLimit();
        pricesOfLimits();
        pricesWithoutPlan();
        pricesOfSeveralLimits();
        harmOfNothing();
        harmIsCutTwice();
        harmWithoutRest();
        sharesOfOneTwoThree();
        sharesOfNothing();
        sharesTogether();
        sharesWithoutRest();
        countsOfAFullLand();
        countsThatAreNotThere();
        CHECK.covers(41, 48);
        CHECK.end();
    }

    private static void due(int promise, String call, long got, long want) {
        CHECK.due(promise, call, got, want);
    }

    /** The pond with wells of these caps, each worth as much as is told behind it. */
    private static GroundWaters pond(int... capsAndWorths) {
        GroundWaters x = Lands.pond();
        for (int i = 0; i + 1 < capsAndWorths.length; i += 2) x.well(0, capsAndWorths[i], capsAndWorths[i + 1]);
        return x;
    }

    /** Terms 6: "MILLI, 0 .. 2000000". */
    private static void limitsFromNothingToMost() {
        GroundWaters x = Lands.pond();
        for (int v : new int[] {-1, 2000001, NONE - 1, NONE + 1, UNKNOWN, BAD, MIN, MAX}) due(41, "limit(0, " + v + ")", x.limit(0, v), BAD);
        due(41, "limit(0, 0): the least", x.limit(0, 0), NONE);
        due(41, "limit(0, 2000000): the most", x.limit(0, 2000000), 0);
        due(41, "limit(0, 2000001)", x.limit(0, 2000001), BAD);
        due(41, "limit(0, NONE): what it was, though one was refused", x.limit(0, NONE), 2000000);
        due(41, "limit(0, NONE): there was none", x.limit(0, NONE), NONE);
        for (int no : new int[] {1, 6, -1, MIN, MAX}) {
            due(41, "limit(" + no + ", 0)", x.limit(no, 0), UNKNOWN);
            due(41, "limit(" + no + ", -1): UNKNOWN is told first", x.limit(no, -1), UNKNOWN);
        }
    }

    /** Terms 6: "LIMITS of CELLS (NONE at first". */
    private static void limitsAtFirst() {
        GroundWaters x = new GroundWaters();
        for (int c = 0; c < 6; c++) {
            x.cell(0, 0, 1);
            due(41, "limit(" + c + ", 5) at first", x.limit(c, 5), NONE);
        }
        for (int c = 0; c < 6; c++) due(41, "limit(" + c + ", NONE)", x.limit(c, NONE), 5);
    }

    /** Terms 6: "its RATE is CAP times LEVEL by 4, cut". */
    private static void levelsAreCut() {
        GroundWaters x = pond(99, 1);
        int[] rates = {0, 24, 49, 74, 99};
        for (int level = 0; level <= 4; level++) {
            x.limit(0, 100000 - 1000 * rates[level]);
            due(43, "level(0) where " + rates[level] + " may be drawn", x.level(0), level);
            due(42, "worth()", x.worth(), rates[level]);
            due(44, "draw()", x.draw(), rates[level]);
            due(48, "count(8)", x.count(8), rates[level]);
            if (level > 0) {
                x.limit(0, 100000 - 1000 * rates[level] + 1);
                due(43, "level(0) where a little less may be drawn", x.level(0), level - 1);
            }
        }
    }

    /** Levels of one rate are like plans: the first is told. */
    private static void levelsOfSmallCaps() {
        int[][] rows = {{0, 0, 0}, {1, 4, 1}, {2, 4, 2}, {3, 4, 3}};
        for (int[] row : rows) {
            GroundWaters x = pond(row[0], 1);
            due(43, "level(0) of a cap of " + row[0], x.level(0), row[1]);
            due(44, "draw()", x.draw(), row[2]);
        }
        GroundWaters y = pond(2, 5);
        Lands.write(y, "q0<2");
        due(43, "level(0): 1 is drawn at levels 2 and 3", y.level(0), 2);
        Lands.write(y, "q0<1");
        due(43, "level(0): 0 is drawn at levels 0 and 1", y.level(0), 0);
    }

    /** Terms 6: "A PLAN is a LEVEL 0 .. 4 for each WELL": without wells there is one plan. */
    private static void withoutWells() {
        GroundWaters x = pond();
        due(42, "worth() without wells", x.worth(), 0);
        due(44, "draw() without wells", x.draw(), 0);
        due(43, "level(0) without wells", x.level(0), UNKNOWN);
        x.limit(0, 100000);
        due(45, "price(0) without wells", x.price(0), 0);
        x.limit(0, 100001);
        due(42, "worth() without wells beyond a limit", x.worth(), NONE);
        due(44, "draw()", x.draw(), NONE);
        due(45, "price(0)", x.price(0), NONE);
    }

    /** Terms 6: "if with these RATES there is A REST": with those of the plan, not as they are. */
    private static void restWithTheRatesOfThePlan() {
        GroundWaters x = new GroundWaters();
        due(42, "worth() without cells", x.worth(), NONE);
        x.cell(0, 0, 1);
        due(42, "worth() without rest", x.worth(), NONE);
        x.river(0, 40, 20, 1);
        x.well(0, 80, 1);
        due(42, "worth(): 20 is all that the river gives", x.worth(), 20);
        x.rate(0, 80);
        due(11, "pattern() as the rates are", x.pattern(), NONE);
        due(42, "worth() as before", x.worth(), 20);
        due(43, "level(0)", x.level(0), 1);
        due(44, "draw()", x.draw(), 20);
        due(11, "pattern() then", x.pattern(), 1);
    }

    /** Terms 6: "no CELL is DRY": at its bottom it is not. */
    private static void noCellIsDry() {
        GroundWaters x = new GroundWaters();
        x.cell(60, 0, 1);
        x.river(0, 100, 0, 1);
        x.well(0, 40, 1);
        due(42, "worth(): the head at its bottom", x.worth(), 40);
        x.stage(0, 99);
        due(42, "worth(): the head would be below it", x.worth(), 30);
        x.stage(0, 60);
        due(42, "worth(): at its bottom without any pumping", x.worth(), 0);
        x.stage(0, 59);
        due(42, "worth(): dry without any pumping", x.worth(), NONE);
        GroundWaters y = pond(8, 1);
        y.cell(101, 0, 1);
        y.link(0, 1, 1);
        due(42, "worth(): another cell is dry", y.worth(), NONE);
    }

    /** Terms 6: "MILLI of each HEAD is its LIMIT at least". */
    private static void atItsLimitAtLeast() {
        GroundWaters x = pond(40, 1);
        x.limit(0, 70000);
        due(42, "worth() at its limit", x.worth(), 30);
        x.limit(0, 70001);
        due(42, "worth() a little below", x.worth(), 20);
        x.limit(0, 100000);
        due(42, "worth() at its limit without any pumping", x.worth(), 0);
        x.limit(0, 100001);
        due(42, "worth() below its limit without any pumping", x.worth(), NONE);
        x.limit(0, 2000000);
        due(42, "worth() with the highest limit", x.worth(), NONE);
        x.limit(0, 0);
        due(42, "worth() with the lowest limit", x.worth(), 40);
    }

    private static void milliAtTheLimit() {
        GroundWaters x = new GroundWaters();
        x.cell(0, 0, 1);
        x.river(0, 100, 0, 3);
        x.well(0, 1, 7);
        // 100 less a third: milli 99666
        x.limit(0, 99666);
        due(42, "worth(): milli is cut, and is its limit", x.worth(), 7);
        x.limit(0, 99667);
        due(42, "worth(): milli is below its limit", x.worth(), 0);
    }

    private static void everyLimitCounts() {
        GroundWaters x = pond(40, 1);
        x.cell(0, 0, 1);
        x.link(0, 1, 1);
        x.limit(1, 80000);
        due(42, "worth() with a limit of another cell", x.worth(), 20);
        x.limit(0, 90000);
        due(42, "worth() with both", x.worth(), 10);
        x.limit(1, NONE);
        due(42, "worth() with the other one alone", x.worth(), 10);
        x.limit(0, NONE);
        due(42, "worth() without", x.worth(), 40);
    }

    /** Terms 6: "the PERMIT, if it has SIGNS and no FAULT, HOLDS". */
    private static void aPermitThatNeverHolds() {
        GroundWaters x = pond(40, 1);
        Lands.write(x, "q0<0");
        due(42, "worth()", x.worth(), NONE);
        due(43, "level(0)", x.level(0), NONE);
        due(44, "draw()", x.draw(), NONE);
        x.limit(0, 0);
        due(45, "price(0)", x.price(0), NONE);
        x.wipe();
        due(42, "worth() without signs: nothing is asked", x.worth(), 40);
    }

    private static void aPermitAtItsEdge() {
        GroundWaters x = pond(40, 1);
        x.rate(0, 7);
        String[] texts = {"h0>70000", "h0>69999", "g0<30000", "g0<30001", "q0<31", "q0=10", "!q0<40", "q0=7"};
        int[] want = {20, 30, 20, 30, 30, 10, 40, NONE};
        for (int i = 0; i < texts.length; i++) {
            Lands.write(x, texts[i]);
            due(42, "worth() with " + texts[i] + ", asked of the plan's rates", x.worth(), want[i]);
        }
        due(40, "holds() of q0=7, asked of the rates as they are", x.holds(), 1);
    }

    private static void aPermitWithAFault() {
        GroundWaters x = pond(40, 1);
        for (String text : new String[] {"q0<0&", "q0<0)", "q1<0", "(q0<0", " "}) {
            Lands.write(x, text);
            due(42, "worth() with " + text + ": it has a fault", x.worth(), 40);
        }
    }

    /** Terms 6: "THE BEST PLAN .. is WORTH most"; as much as may be is 3 times 99 times 99. */
    private static void worthMost() {
        GroundWaters x = new GroundWaters();
        x.cell(0, 0, 1);
        x.river(0, 1000, 0, 9);
        for (int w = 0; w < 3; w++) x.well(0, 99, 99);
        due(42, "worth()", x.worth(), 29403);
        for (int w = 0; w < 3; w++) due(43, "level(" + w + ")", x.level(w), 4);
        due(44, "draw()", x.draw(), 29403);
        due(48, "count(8)", x.count(8), 297);
        GroundWaters y = pond(40, 0, 40, 1);
        y.limit(0, 60000);
        due(42, "worth(): a well that is worth nothing is left alone", y.worth(), 40);
        due(43, "level(0)", y.level(0), 0);
        due(43, "level(1)", y.level(1), 4);
    }

    /** Terms 6: "of like ones that with the least RATES together". */
    private static void leastRatesOfLikeOnes() {
        GroundWaters x = pond(40, 1, 20, 2);
        Lands.write(x, "q0=0|q1=0");
        due(42, "worth(): 40 of the one, or 20 of the other", x.worth(), 40);
        due(43, "level(0)", x.level(0), 0);
        due(43, "level(1)", x.level(1), 4);
        GroundWaters y = pond(20, 2, 40, 1);
        Lands.write(y, "q0=0|q1=0");
        due(43, "level(0): less rates, though its levels come later", y.level(0), 4);
        due(43, "level(1)", y.level(1), 0);
        GroundWaters z = pond(40, 0);
        due(42, "worth() of nothing", z.worth(), 0);
        due(43, "level(0): the least rates", z.level(0), 0);
    }

    /** Terms 6: "of like ones the first by LEVELS of WELLS 0, 1, ..". */
    private static void firstLevelsOfLikeOnes() {
        GroundWaters x = pond(40, 3, 40, 3, 40, 3);
        x.limit(0, 90000);
        due(42, "worth(): 10 of any well", x.worth(), 30);
        due(43, "level(0)", x.level(0), 0);
        due(43, "level(1)", x.level(1), 0);
        due(43, "level(2)", x.level(2), 1);
        x.limit(0, 50000);
        due(42, "worth(): 50 of all", x.worth(), 150);
        due(43, "level(0)", x.level(0), 0);
        due(43, "level(1)", x.level(1), 1);
        due(43, "level(2)", x.level(2), 4);
        Lands.write(x, "q2<11");
        due(43, "level(0) where well 2 draws 10 at most", x.level(0), 0);
        due(43, "level(1)", x.level(1), 4);
        due(43, "level(2)", x.level(2), 1);
    }

    /** Promise 43: "NONE. UNKNOWN." */
    private static void levelsWithoutAPlan() {
        GroundWaters x = pond(40, 1);
        x.limit(0, 2000000);
        due(43, "level(0) without a plan", x.level(0), NONE);
        for (int no : new int[] {1, 3, -1, MIN, MAX}) due(43, "level(" + no + ") without a plan", x.level(no), UNKNOWN);
        x.limit(0, NONE);
        for (int no : new int[] {1, 3, -1, MIN, MAX}) due(43, "level(" + no + ")", x.level(no), UNKNOWN);
        due(43, "level(0)", x.level(0), 4);
    }

    /** Promise 44: "RATES become those of THE BEST PLAN". */
    private static void drawsDownAndUp() {
        GroundWaters x = pond(40, 1, 40, 2);
        x.rate(0, 40);
        x.rate(1, 3);
        x.limit(0, 60000);
        due(44, "draw()", x.draw(), 80);
        due(44, "rate(0, 0): down to 0", x.rate(0, 0), 0);
        due(44, "rate(1, 40): up to 40", x.rate(1, 40), 40);
        due(44, "draw() once more", x.draw(), 80);
        due(13, "milli(0) at its limit", x.milli(0), 60000);
    }

    /** Promise 44: "NONE: there is none (nothing changes)". */
    private static void drawsNothing() {
        GroundWaters x = pond(40, 1, 40, 2);
        x.rate(0, 11);
        x.rate(1, 3);
        x.limit(0, 100001);
        due(44, "draw()", x.draw(), NONE);
        due(44, "rate(0, 11): as it was", x.rate(0, 11), 11);
        due(44, "rate(1, 3): as it was", x.rate(1, 3), 3);
    }

    /** Promise 45: "0: it has none", though no plan may be. */
    private static void pricesWithoutLimit() {
        GroundWaters x = pond(40, 1);
        due(45, "price(0) without limit", x.price(0), 0);
        x.stage(0, 0);
        x.limit(0, 1);
        due(45, "price(0): no plan may be with it", x.price(0), NONE);
        x.limit(0, NONE);
        due(45, "price(0) without limit again", x.price(0), 0);
        Lands.write(x, "q0<0");
        due(42, "worth(): no plan may be", x.worth(), NONE);
        due(45, "price(0): it has no limit all the same", x.price(0), 0);
        for (int no : new int[] {1, 6, -1, MIN, MAX}) due(45, "price(" + no + ")", x.price(no), UNKNOWN);
    }

    private static void pricesOfLimits() {
        GroundWaters x = pond(40, 2);
        int[][] rows = {{0, 0}, {60000, 0}, {60001, 20}, {70000, 20}, {80000, 40}, {90000, 60}, {90001, 80}, {100000, 80}, {100001, NONE}};
        for (int[] row : rows) {
            x.limit(0, row[0]);
            due(45, "price(0) of a limit of " + row[0], x.price(0), row[1]);
        }
        due(45, "limit(0, NONE): asking for its price changes nothing", x.limit(0, NONE), 100001);
    }

    /** Promise 45: "NONE: no PLAN MAY BE with it", whatever it is that forbids all. */
    private static void pricesWithoutPlan() {
        GroundWaters x = pond(40, 2);
        x.limit(0, 0);
        due(45, "price(0)", x.price(0), 0);
        Lands.write(x, "q0<0");
        due(45, "price(0): the permit forbids all", x.price(0), NONE);
        x.wipe();
        x.cell(0, 0, 1);
        due(45, "price(0): there is no rest", x.price(0), NONE);
        due(45, "price(1): it has no limit", x.price(1), 0);
    }

    private static void pricesOfSeveralLimits() {
        GroundWaters x = pond(40, 1);
        x.cell(0, 0, 1);
        x.link(0, 1, 1);
        x.limit(0, 80000);
        x.limit(1, 90000);
        due(45, "price(0): the other limit binds", x.price(0), 0);
        due(45, "price(1): from 10 to 20", x.price(1), 10);
        x.limit(1, 100001);
        due(45, "price(0): the other limit forbids all", x.price(0), NONE);
        due(45, "price(1): it forbids all itself", x.price(1), NONE);
    }

    private static void harmOfNothing() {
        GroundWaters x = pond();
        due(46, "harm(0) without wells", x.harm(0), 0);
        x.well(0, 40, 1);
        due(46, "harm(0) with a rate of 0", x.harm(0), 0);
        x.rate(0, 40);
        due(46, "harm(0)", x.harm(0), 40000);
        due(48, "count(8): rates stay", x.count(8), 40);
        for (int no : new int[] {1, 6, -1, MIN, MAX}) due(46, "harm(" + no + ")", x.harm(no), UNKNOWN);
    }

    /** Terms 6: "MILLI of its HEAD with all RATES 0, less MILLI with RATES as they are": each is cut ahead of that. */
    private static void harmIsCutTwice() {
        GroundWaters x = new GroundWaters();
        x.cell(0, 1, 1);
        x.river(0, 100, 0, 3);
        x.well(0, 9, 0);
        x.rate(0, 2);
        // 100 and a third, less 99 and two thirds
        due(46, "harm(0): 100333 less 99666", x.harm(0), 667);
        due(47, "share(0, 0)", x.share(0, 0), 4002);
        x.rate(0, 1);
        due(46, "harm(0): 100333 less 100000", x.harm(0), 333);
    }

    /** Promise 46: "STATE: there is NO REST with RATES 0, or as they are." */
    private static void harmWithoutRest() {
        GroundWaters x = pond(99, 1, 99, 1);
        x.rate(0, 99);
        x.rate(1, 1);
        due(46, "harm(0) at the bed", x.harm(0), 100000);
        x.rate(1, 2);
        due(46, "harm(0): no rest as rates are", x.harm(0), STATE);
        due(46, "harm(1): UNKNOWN is told first", x.harm(1), UNKNOWN);
        GroundWaters y = new GroundWaters();
        y.cell(0, 0, 1);
        due(46, "harm(0): no rest with rates 0", y.harm(0), STATE);
    }

    /** Terms 6: "all orders together, by how many these are, six times". */
    private static void sharesOfOneTwoThree() {
        GroundWaters x = new GroundWaters();
        x.cell(0, 0, 1);
        x.river(0, 50, 40, 1);
        x.river(0, 50, 0, 1);
        for (int w = 0; w < 3; w++) x.well(0, 50, 0);
        x.rate(0, 20);
        // heads: 50 - q / 2 down to 40 at 20, then 60 - q
        due(47, "share(0, 0) alone", x.share(0, 0), 60000);
        x.rate(1, 20);
        // first 10, second 20
        due(47, "share(0, 0) of two", x.share(0, 0), 3 * 30000);
        due(47, "share(0, 1) of two", x.share(0, 1), 3 * 30000);
        due(47, "share(0, 2) with a rate of 0", x.share(0, 2), 0);
        x.rate(2, 20);
        // first 10, second 20, third 20
        for (int w = 0; w < 3; w++) due(47, "share(0, " + w + ") of three", x.share(0, w), 2 * 50000);
        GroundWaters y = pond(30, 0, 30, 0);
        y.rate(0, 30);
        y.rate(1, 5);
        due(47, "share(0, 0) of two that do not touch each other", y.share(0, 0), 180000);
        due(47, "share(0, 1) of two", y.share(0, 1), 30000);
    }

    private static void sharesOfNothing() {
        GroundWaters x = pond(40, 1, 40, 1);
        due(47, "share(0, 0) with rates of 0", x.share(0, 0), 0);
        x.rate(0, 40);
        due(47, "share(0, 1) with a rate of 0", x.share(0, 1), 0);
        due(47, "share(0, 0)", x.share(0, 0), 240000);
        for (int no : new int[] {2, 3, -1, MIN, MAX}) {
            due(47, "share(0, " + no + ")", x.share(0, no), UNKNOWN);
            due(47, "share(" + no + ", 0)", x.share(no, 0), UNKNOWN);
        }
    }

    /** What all wells are charged is six times the harm. */
    private static void sharesTogether() {
        GroundWaters x = Lands.full();
        for (int c = 0; c < 6; c++) {
            due(47, "shares at cell " + c, x.share(c, 0) + x.share(c, 1) + x.share(c, 2), 6 * x.harm(c));
        }
    }

    /** Promise 47: "STATE: there is NO REST with RATES of some of the WELLS alone." */
    private static void sharesWithoutRest() {
        GroundWaters x = pond(99, 0, 99, 0, 99, 0);
        x.rate(0, 40);
        x.rate(1, 40);
        x.rate(2, 20);
        due(47, "share(0, 2) with all at the bed", x.share(0, 2), 120000);
        x.rate(2, 21);
        due(47, "share(0, 2): any two have a rest, all three have none", x.share(0, 2), STATE);
        x.rate(2, 99);
        due(47, "share(0, 0): wells 0 and 2 have none", x.share(0, 0), STATE);
        due(47, "share(0, 3): UNKNOWN is told first", x.share(0, 3), UNKNOWN);
        due(47, "share(1, 0): UNKNOWN is told first", x.share(1, 0), UNKNOWN);
        GroundWaters y = new GroundWaters();
        y.cell(0, 0, 1);
        y.well(0, 5, 0);
        due(47, "share(0, 0) without any rest", y.share(0, 0), STATE);
    }

    /** Promise 48: each count at its most. */
    private static void countsOfAFullLand() {
        GroundWaters x = new GroundWaters();
        for (int c = 0; c < 7; c++) x.cell(0, 0, 1);
        for (int l = 0; l < 13; l++) x.link(l % 6, (l + 1) % 6, 1);
        for (int r = 0; r < 4; r++) x.river(0, 1, 0, 1);
        for (int d = 0; d < 3; d++) x.drain(0, 1, 1);
        for (int w = 0; w < 4; w++) x.well(0, 99, 0);
        for (int w = 0; w < 3; w++) x.rate(w, 99);
        for (int w = 0; w < 6; w++) x.world(w, 1);
        for (int s = 0; s < 201; s++) x.sign('(');
        for (int c = 0; c < 7; c++) x.see(c, 0, 0);
        long[] want = {6, 12, 3, 2, 3, 5, 200, 6, 297};
        for (int what = 0; what <= 8; what++) due(48, "count(" + what + ") of a full land", x.count(what), want[what]);
        x.wipe();
        x.see(3, 0, -1);
        x.rate(1, 0);
        due(48, "count(6) behind a wipe", x.count(6), 0);
        due(48, "count(7): at one cell nothing is seen any more", x.count(7), 5);
        due(48, "count(8): one rate is 0", x.count(8), 198);
    }

    private static void countsThatAreNotThere() {
        GroundWaters x = new GroundWaters();
        for (int what : new int[] {-1, 9, 10, MIN, MAX}) due(48, "count(" + what + ")", x.count(what), BAD);
        for (int what = 0; what <= 8; what++) due(48, "count(" + what + ") of a new object", x.count(what), 0);
    }
}
