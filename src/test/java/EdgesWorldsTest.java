/** Promises 31 to 36, sentence by sentence: each boundary case that the document names has a test of its own here. */
public final class EdgesWorldsTest {
    private static final Check CHECK = new Check("EdgesWorldsTest");
    private static final int UNKNOWN = Lands.UNKNOWN, BAD = Lands.BAD, STATE = Lands.STATE, FULL = Lands.FULL, NONE = Lands.NONE;
    private static final int MIN = Lands.MIN, MAX = Lands.MAX;

    public static void main(String[] args) {
        fiveWorlds();
        easesOfWorlds();
        linksOfWorlds();
        theLandStaysAsItIs();
        aWorldLikeTheLand();
        seenFromLeastToMost();
        giveFromNothingToMost();
        nothingIsSeenAnyMore();
        seenInsteadOfWhatWas();
        seenAtAllCells();
        leftWithoutWorlds();
        leftWithNothingSeen();
        soFarOffAtMost();
        eachCellCounts();
        farFromAllThatIsSeen();
        leftWithoutRest();
        milliInAWorld();
        inWorldWithoutRest();
        nextWithoutWorldsLeft();
        nextWithAllSeen();
        nextOfLikeCells();
        nextOfCellsNotSeen();
        nextWithOneWorld();
        alikeByMilli();
        alikeOfWorldsLeftAlone();
        alikeOfNone();
        refusals();
        CHECK.covers(31, 36);
        CHECK.end();
    }

    private static void due(int promise, String call, long got, long want) {
        CHECK.due(promise, call, got, want);
    }

    /** Rain of 12 in cell 0 goes by link 0 to cell 1 and its river: h1 = 11, h0 = 11 + 12 / ease. */
    private static GroundWaters twoCells() {
        GroundWaters x = new GroundWaters();
        x.cell(0, 12, 1);
        x.cell(0, 0, 1);
        x.link(0, 1, 1);
        x.river(1, 5, 0, 2);
        return x;
    }

    /**
     * A well takes all that rain, 6, and a river above its bed, 10, can give: with ease 3 or more of the link the river
     * is tied at its bed, 20, and the drain beside it, at 22, does not run; with less the drain is reached first, and
     * any head below it will do, so there is no rest.
     */
    private static GroundWaters atTheBrink() {
        GroundWaters x = new GroundWaters();
        x.cell(0, 0, 1);
        x.cell(0, 6, 1);
        x.link(1, 0, 9);
        x.river(0, 30, 20, 1);
        x.drain(1, 22, 1);
        x.well(0, 99, 0);
        x.rate(0, 16);
        return x;
    }

    /** Terms 4: "WORLDS 0 .. 4 (5 at most)". */
    private static void fiveWorlds() {
        GroundWaters x = twoCells();
        for (int w = 0; w < 5; w++) due(31, "world " + w + ": several may be of one link", x.world(0, 1 + w), w);
        due(31, "a sixth world", x.world(0, 9), FULL);
        due(31, "a sixth world of ease 10: BAD is told first", x.world(0, 10), BAD);
        due(31, "a sixth world of no link: UNKNOWN is told first", x.world(1, 9), UNKNOWN);
        due(31, "count(5)", x.count(5), 5);
        due(34, "inWorld(4, 1): the last one is there", x.inWorld(4, 1), 11000);
        due(34, "inWorld(5, 1): the sixth is not", x.inWorld(5, 1), UNKNOWN);
        due(33, "left(): five worlds", x.left(), 31);
    }

    /** Promise 31: "BAD: ease": it is 1 .. 9 (terms 1). */
    private static void easesOfWorlds() {
        GroundWaters x = twoCells();
        for (int e : new int[] {0, 10, -1, MIN, MAX}) due(31, "world(0, " + e + ")", x.world(0, e), BAD);
        due(31, "count(5)", x.count(5), 0);
        due(31, "world(0, 1): the least", x.world(0, 1), 0);
        due(31, "world(0, 9): the greatest", x.world(0, 9), 1);
        due(34, "inWorld(0, 0)", x.inWorld(0, 0), 23000);
        due(34, "inWorld(1, 0)", x.inWorld(1, 0), 12333);
    }

    /** Promise 31: "UNKNOWN: link". */
    private static void linksOfWorlds() {
        GroundWaters x = twoCells();
        for (int l : new int[] {1, 11, 12, -1, MIN, MAX}) due(31, "world(" + l + ", 2)", x.world(l, 2), UNKNOWN);
        due(31, "world(1, 0): UNKNOWN is told first", x.world(1, 0), UNKNOWN);
        for (int l = 1; l < 12; l++) x.link(0, 1, 1);
        due(31, "world(11, 2): the last link", x.world(11, 2), 0);
        due(34, "inWorld(0, 0): eases of 13 together", x.inWorld(0, 0), 11923);
    }

    /** Terms 4: "the land as it is, but for one LINK's EASE". */
    private static void theLandStaysAsItIs() {
        GroundWaters x = twoCells();
        x.world(0, 6);
        due(34, "inWorld(0, 0)", x.inWorld(0, 0), 13000);
        due(31, "milli(0): the land keeps its own ease", x.milli(0), 23000);
        due(31, "ease(0, 3): what it was", x.ease(0, 3), 1);
        due(34, "inWorld(0, 0) with another ease in the land", x.inWorld(0, 0), 13000);
        x.rain(0, 0);
        due(34, "inWorld(0, 0) without rain: the land as it is now", x.inWorld(0, 0), 5000);
    }

    private static void aWorldLikeTheLand() {
        GroundWaters x = twoCells();
        due(31, "world(0, 1): the ease that the link has", x.world(0, 1), 0);
        due(34, "inWorld(0, 0)", x.inWorld(0, 0), x.milli(0));
    }

    /** Terms 4: "MILLI of a HEAD (-9000000 .. 9000000)". */
    private static void seenFromLeastToMost() {
        GroundWaters x = twoCells();
        for (int v : new int[] {-9000001, 9000001, MIN, MAX}) due(32, "see(0, " + v + ", 0)", x.see(0, v, 0), BAD);
        due(48, "count(7)", x.count(7), 0);
        due(32, "see(0, -9000000, 0): the least", x.see(0, -9000000, 0), 1);
        due(32, "see(1, 9000000, 0): the most", x.see(1, 9000000, 0), 1);
        due(48, "count(7)", x.count(7), 2);
        due(32, "see(2, 0, 0): no such cell", x.see(2, 0, 0), UNKNOWN);
        due(32, "see(-1, 0, 0): no such cell", x.see(-1, 0, 0), UNKNOWN);
    }

    /** Terms 4: "give or take so much (0 .. 100000)"; promise 32: "BAD: .. give or take above 100000". */
    private static void giveFromNothingToMost() {
        GroundWaters x = twoCells();
        x.world(0, 1);
        due(32, "see(0, 0, 100001)", x.see(0, 0, 100001), BAD);
        due(32, "see(0, 0, max)", x.see(0, 0, MAX), BAD);
        due(48, "count(7)", x.count(7), 0);
        due(32, "see(0, 23000, 0): the least", x.see(0, 23000, 0), 1);
        due(33, "left(): just so", x.left(), 1);
        due(32, "see(0, 123000, 100000): the most", x.see(0, 123000, 100000), 1);
        due(33, "left(): just so far off", x.left(), 1);
        due(32, "see(0, 123001, 100000)", x.see(0, 123001, 100000), 1);
        due(33, "left(): farther off", x.left(), 0);
        due(32, "see(0, 0, 100001)", x.see(0, 0, 100001), BAD);
        due(33, "left(): what was seen stays", x.left(), 0);
    }

    /** Promise 32: "0, if give or take is below 0: nothing is SEEN there any more". */
    private static void nothingIsSeenAnyMore() {
        GroundWaters x = twoCells();
        x.world(0, 1);
        due(32, "see(0, 0, -1) where nothing was seen", x.see(0, 0, -1), 0);
        due(48, "count(7)", x.count(7), 0);
        for (int give : new int[] {-1, -2, -100001, MIN}) {
            due(32, "see(0, 5, 0)", x.see(0, 5, 0), 1);
            due(33, "left()", x.left(), 0);
            due(32, "see(0, 5, " + give + ")", x.see(0, 5, give), 0);
            due(48, "count(7)", x.count(7), 0);
            due(33, "left(): nothing is seen any more", x.left(), 1);
        }
        x.see(0, 5, 0);
        due(32, "see(0, 9000001, -1): a bad milli is BAD all the same", x.see(0, 9000001, -1), BAD);
        due(48, "count(7): still seen", x.count(7), 1);
        due(32, "see(1, 5, -1): of another cell", x.see(1, 5, -1), 0);
        due(48, "count(7): still seen", x.count(7), 1);
    }

    /** Promise 32: "(instead of what was)". */
    private static void seenInsteadOfWhatWas() {
        GroundWaters x = twoCells();
        x.world(0, 1);
        x.see(0, 5, 0);
        due(32, "see(0, 23000, 0)", x.see(0, 23000, 0), 1);
        due(48, "count(7): one cell", x.count(7), 1);
        due(33, "left(): only what was seen last counts", x.left(), 1);
    }

    private static void seenAtAllCells() {
        GroundWaters x = new GroundWaters();
        for (int c = 0; c < 6; c++) x.cell(0, 0, 1);
        for (int c = 0; c < 6; c++) due(32, "see(" + c + ", 0, 0)", x.see(c, 0, 0), 1);
        due(32, "see(6, 0, 0)", x.see(6, 0, 0), UNKNOWN);
        due(48, "count(7)", x.count(7), 6);
    }

    private static void leftWithoutWorlds() {
        GroundWaters x = twoCells();
        due(33, "left() without worlds", x.left(), 0);
        x.see(0, 23000, 100000);
        due(33, "left() without worlds, with something seen", x.left(), 0);
    }

    private static void leftWithNothingSeen() {
        GroundWaters x = twoCells();
        for (int w = 0; w < 5; w++) {
            x.world(0, 9);
            due(33, "left() of " + (w + 1) + " worlds", x.left(), (2 << w) - 1);
        }
    }

    /** Terms 4: "is so far off at most". */
    private static void soFarOffAtMost() {
        GroundWaters x = twoCells();
        x.world(0, 3);
        // milli 15000
        int[][] rows = {{15000, 0, 1}, {15001, 0, 0}, {14999, 0, 0}, {15010, 10, 1}, {15011, 10, 0}, {14990, 10, 1}, {14989, 10, 0}, {-85000, 100000, 1}, {-85001, 100000, 0}};
        for (int[] row : rows) {
            x.see(0, row[0], row[1]);
            due(33, "left() with " + row[0] + " seen, give or take " + row[1], x.left(), row[2]);
        }
    }

    /** Terms 4: "of each CELL at which something was SEEN". */
    private static void eachCellCounts() {
        GroundWaters x = twoCells();
        x.world(0, 3);
        x.see(0, 15000, 0);
        due(33, "left()", x.left(), 1);
        x.see(1, 10999, 0);
        due(33, "left(): one cell is off", x.left(), 0);
        x.see(1, 11000, 0);
        due(33, "left(): both fit", x.left(), 1);
        x.see(0, 15001, 0);
        due(33, "left(): the other cell is off", x.left(), 0);
    }

    private static void farFromAllThatIsSeen() {
        GroundWaters x = twoCells();
        x.world(0, 1);
        x.see(0, 9000000, 100000);
        due(33, "left() far below what was seen", x.left(), 0);
        x.see(0, -9000000, 100000);
        due(33, "left() far above what was seen", x.left(), 0);
    }

    /** Terms 4: "A WORLD IS LEFT, if it has A REST": its own, whether the land has one or not. */
    private static void leftWithoutRest() {
        GroundWaters x = atTheBrink();
        int[] eases = {1, 2, 3, 4, 9};
        for (int e : eases) x.world(0, e);
        due(11, "pattern() of the land", x.pattern(), 1);
        due(33, "left(): worlds of eases 3, 4, 9 have a rest", x.left(), 4 + 8 + 16);
        x.ease(0, 1);
        due(11, "pattern() of the land with ease 1", x.pattern(), NONE);
        due(33, "left(): the land's own ease is not asked", x.left(), 4 + 8 + 16);
        x.rate(0, 17);
        due(33, "left(): no world has a rest", x.left(), 0);
    }

    private static void milliInAWorld() {
        GroundWaters x = atTheBrink();
        x.world(0, 3);
        x.world(0, 7);
        due(34, "inWorld(0, 1) at the very level of the drain", x.inWorld(0, 1), 22000);
        due(34, "inWorld(0, 0) at the very bed of the river", x.inWorld(0, 0), 20000);
        due(34, "inWorld(1, 1): 20 and 6/7", x.inWorld(1, 1), 20857);
        GroundWaters y = new GroundWaters();
        for (int c = 0; c < 2; c++) y.cell(0, 0, 1);
        y.river(0, 0, 0, 1);
        y.link(0, 1, 1);
        y.well(1, 9, 0);
        y.rain(0, 1);
        y.rate(0, 1);
        y.world(0, 7);
        due(34, "inWorld(0, 1) of -1/7: not above it", y.inWorld(0, 1), -143);
    }

    /** Promise 34: "STATE: it has NO REST". */
    private static void inWorldWithoutRest() {
        GroundWaters x = atTheBrink();
        x.world(0, 2);
        x.world(0, 3);
        due(34, "inWorld(0, 0): the world has no rest, though the land has", x.inWorld(0, 0), STATE);
        due(34, "inWorld(1, 0)", x.inWorld(1, 0), 20000);
        x.ease(0, 2);
        due(34, "inWorld(1, 0): the world has a rest, though the land has none", x.inWorld(1, 0), 20000);
        due(34, "inWorld(0, 2): UNKNOWN is told first", x.inWorld(0, 2), UNKNOWN);
    }

    /** Promise 35: "NONE: no WORLD is LEFT". */
    private static void nextWithoutWorldsLeft() {
        GroundWaters x = twoCells();
        due(35, "next() without worlds", x.next(), NONE);
        x.world(0, 3);
        due(35, "next() with a world", x.next(), 0);
        x.see(0, 15001, 0);
        due(35, "next(): none is left", x.next(), NONE);
        GroundWaters y = atTheBrink();
        y.world(0, 1);
        due(35, "next(): the world has no rest", y.next(), NONE);
    }

    /** Promise 35: "or something was SEEN at all CELLS". */
    private static void nextWithAllSeen() {
        GroundWaters x = twoCells();
        x.world(0, 3);
        x.see(0, 15000, 0);
        due(35, "next(): one cell is not seen", x.next(), 1);
        x.see(1, 11000, 0);
        due(33, "left()", x.left(), 1);
        due(35, "next(): all cells are seen", x.next(), NONE);
        x.see(0, 0, -1);
        due(35, "next(): cell 0 is not seen any more", x.next(), 0);
    }

    /** Terms 4: "of like ones the least CELL". */
    private static void nextOfLikeCells() {
        GroundWaters x = new GroundWaters();
        for (int c = 0; c < 6; c++) x.cell(0, c == 5 ? 12 : 0, 1);
        for (int c = 0; c < 5; c++) x.link(c + 1, c, 1);
        x.river(0, 9, 0, 1);
        x.world(2, 2);
        x.world(2, 3);
        // cells 3, 4, 5 tell the worlds apart, cells 0, 1, 2 do not
        for (int c = 0; c < 6; c++) due(36, "alike(" + c + ")", x.alike(c), c < 3 ? 2 : 1);
        due(35, "next()", x.next(), 3);
        x.see(3, 50000, 100000);
        due(35, "next() with cell 3 seen", x.next(), 4);
        x.see(4, 50000, 100000);
        x.see(5, 50000, 100000);
        due(35, "next() with cells 3, 4, 5 seen: the least of those that tell nothing", x.next(), 0);
    }

    /** Terms 4: "of CELLS at which nothing was SEEN". */
    private static void nextOfCellsNotSeen() {
        GroundWaters x = twoCells();
        x.world(0, 3);
        x.world(0, 4);
        due(35, "next(): cell 0 tells the worlds apart", x.next(), 0);
        x.see(0, 14500, 500);
        due(33, "left()", x.left(), 3);
        due(35, "next(): it is seen, so the other one", x.next(), 1);
        due(36, "alike(1)", x.alike(1), 2);
    }

    private static void nextWithOneWorld() {
        GroundWaters x = twoCells();
        x.world(0, 3);
        due(35, "next() with one world: all cells are like", x.next(), 0);
        due(36, "alike(0) with one world", x.alike(0), 1);
        due(36, "alike(1) with one world", x.alike(1), 1);
    }

    /** Terms 4: "and have like MILLI there": heads may differ. */
    private static void alikeByMilli() {
        GroundWaters x = new GroundWaters();
        x.cell(0, 1, 1);
        x.cell(0, 0, 1);
        x.link(0, 1, 1);
        for (int r = 0; r < 3; r++) x.river(0, 10, 0, 9);
        x.drain(1, 10, 9);
        x.world(0, 8);
        x.world(0, 9);
        // 10 + 17/531 and 10 + 2/63 in cell 0; 10 + 8/531 and 10 + 1/63 in cell 1
        due(34, "inWorld(0, 0)", x.inWorld(0, 0), 10032);
        due(34, "inWorld(1, 0)", x.inWorld(1, 0), 10031);
        due(34, "inWorld(0, 1)", x.inWorld(0, 1), 10015);
        due(34, "inWorld(1, 1)", x.inWorld(1, 1), 10015);
        due(36, "alike(0)", x.alike(0), 1);
        due(36, "alike(1): unlike heads of like milli", x.alike(1), 2);
        due(35, "next()", x.next(), 0);
    }

    /** Promise 36: "The greatest number of WORLDS that are LEFT that would be alike there". */
    private static void alikeOfWorldsLeftAlone() {
        GroundWaters x = twoCells();
        for (int e : new int[] {2, 3, 3, 3, 2}) x.world(0, e);
        due(36, "alike(0): 17 twice, 15 three times", x.alike(0), 3);
        due(36, "alike(1): all five", x.alike(1), 5);
        x.see(0, 17000, 1999);
        due(33, "left()", x.left(), 1 + 16);
        due(36, "alike(0) of those left, though it is seen", x.alike(0), 2);
        due(36, "alike(1) of those left", x.alike(1), 2);
        due(35, "next()", x.next(), 1);
    }

    /** Promise 36: "(0 where none is)". */
    private static void alikeOfNone() {
        GroundWaters x = twoCells();
        due(36, "alike(0) without worlds", x.alike(0), 0);
        x.world(0, 3);
        x.see(1, 0, 0);
        due(36, "alike(0): none is left", x.alike(0), 0);
        GroundWaters y = atTheBrink();
        y.world(0, 1);
        due(36, "alike(0): no world has a rest", y.alike(0), 0);
        y.world(0, 9);
        due(36, "alike(0): one has", y.alike(0), 1);
    }

    private static void refusals() {
        GroundWaters x = twoCells();
        for (int no : new int[] {0, 1, 5, -1, MIN, MAX}) due(34, "inWorld(" + no + ", 0) without worlds", x.inWorld(no, 0), UNKNOWN);
        x.world(0, 3);
        for (int no : new int[] {1, 4, 5, -1, MIN, MAX}) due(34, "inWorld(" + no + ", 0)", x.inWorld(no, 0), UNKNOWN);
        for (int no : new int[] {2, 6, -1, MIN, MAX}) {
            due(34, "inWorld(0, " + no + ")", x.inWorld(0, no), UNKNOWN);
            due(36, "alike(" + no + ")", x.alike(no), UNKNOWN);
        }
    }
}
