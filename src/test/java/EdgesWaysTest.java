/** Promises 20 to 25, sentence by sentence: each boundary case that the document names has a test of its own here. */
public final class EdgesWaysTest {
    private static final Check CHECK = new Check("EdgesWaysTest");
    private static final int UNKNOWN = Lands.UNKNOWN, STATE = Lands.STATE, NONE = Lands.NONE;
    private static final int MIN = Lands.MIN, MAX = Lands.MAX;

    public static void main(String[] args) {
        theFirstCellOfAWay();
        notSoManyCells();
        aWayOfAllCells();
        aWayThatEndsAhead();
        likeLinks();
        likeKinds();
        likeOnesOfOneKind();
        allEnds();
        noEnd();
        aRiverAtItsStage();
        aDrainAtItsLevel();
        aWellOfRateNothing();
        aLinkOfLikeHeads();
        timeOfADryCell();
        timeAtTheBottom();
        timeWithoutOutlets();
        timeByAllOutlets();
        timesBeyondAnInt();
        aVeryLongTime();
        wayTimeIsCutCellByCell();
        wayTimeWithoutOutlets();
        wayTimeOfDryCells();
        zoneOfRateNothing();
        zoneOfItsOwnCell();
        zoneByLesserOutlets();
        zoneOfAllCells();
        zoneByLinksToldEitherWay();
        zoneOfTheSmallestFlow();
        spillWithoutOutlets();
        spillThatNeverComesThere();
        spillIsCut();
        spillOfOneOutlet();
        spillCutTwice();
        spillByManyLinks();
        allOutletsThatThereMayBe();
        endsThatAreNotThere();
        refusals();
        CHECK.covers(20, 25);
        CHECK.end();
    }

    private static void due(int promise, String call, long got, long want) {
        CHECK.due(promise, call, got, want);
    }

    /** Cells n - 1 .. 0 in a row with links of ease 3; rain of 3 in the last goes to a river of ease 3 at 0: heads 1, 2, .. */
    private static GroundWaters row(int n) {
        GroundWaters x = new GroundWaters();
        for (int i = 0; i < n; i++) x.cell(i, i == n - 1 ? 3 : 0, 1);
        for (int i = 0; i + 1 < n; i++) x.link(i + 1, i, 3);
        x.river(0, 0, 0, 3);
        return x;
    }

    /** One cell, its head held at 20 by a river at its stage, as long as what comes as rain leaves by the rest. */
    private static GroundWaters held(int rain) {
        GroundWaters x = new GroundWaters();
        x.cell(0, rain, 1);
        x.river(0, 20, 0, 1);
        return x;
    }

    /** Promise 20: "CELL i of THE WAY (0: that one)". */
    private static void theFirstCellOfAWay() {
        GroundWaters x = row(3);
        for (int c = 0; c < 3; c++) due(20, "way(" + c + ", 0)", x.way(c, 0), c);
        GroundWaters y = Lands.pond();
        due(20, "way(0, 0) of still water", y.way(0, 0), 0);
    }

    /** Promise 20: "NONE: it has not so many." */
    private static void notSoManyCells() {
        GroundWaters x = row(3);
        due(20, "way(2, 2): the last one", x.way(2, 2), 0);
        for (int i : new int[] {3, 4, 5, 6, 7, 100, MAX, -1, MIN}) due(20, "way(2, " + i + ")", x.way(2, i), NONE);
        due(20, "way(0, 1)", x.way(0, 1), NONE);
        due(20, "way(0, -1)", x.way(0, -1), NONE);
    }

    private static void aWayOfAllCells() {
        GroundWaters x = row(6);
        for (int i = 0; i < 6; i++) due(20, "way(5, " + i + ")", x.way(5, i), 5 - i);
        due(20, "way(5, 6): no more than all", x.way(5, 6), NONE);
        due(21, "end(5)", x.end(5), 100);
    }

    /** Terms 2: ".. or an OUTLET that is no LINK": though water goes on by a lesser link. */
    private static void aWayThatEndsAhead() {
        GroundWaters x = row(3);
        x.well(1, 9, 0);
        x.rate(0, 2);
        // 3 come to cell 1, 2 go by its well, 1 goes on
        due(14, "flow(0): 1 goes on", x.flow(0), 1000);
        due(20, "way(2, 1)", x.way(2, 1), 1);
        due(20, "way(2, 2): the way has ended", x.way(2, 2), NONE);
        due(21, "end(2)", x.end(2), 300);
        due(21, "end(0): what went on", x.end(0), 100);
        x.rate(0, 1);
        due(20, "way(2, 2): now the link takes more", x.way(2, 2), 0);
        due(21, "end(2)", x.end(2), 100);
    }

    /** Terms 2: "by the OUTLET of the greatest FLOW, of like ones the first": LINKS by number, whichever cell they name first. */
    private static void likeLinks() {
        for (int first = 1; first <= 2; first++) {
            GroundWaters x = new GroundWaters();
            x.cell(0, 6, 1);
            x.cell(0, 0, 1);
            x.cell(0, 0, 1);
            if (first == 1) x.link(1, 0, 1); else x.link(0, 2, 1);
            if (first == 1) x.link(0, 2, 1); else x.link(1, 0, 1);
            x.river(1, 5, 0, 1);
            x.river(2, 5, 0, 1);
            due(20, "way(0, 1) with the link to cell " + first + " ahead", x.way(0, 1), first);
            due(21, "end(0)", x.end(0), 99 + first);
        }
    }

    /** Terms 2: "in order: LINKS .. RIVERS .. DRAINS .. WELLS": of like flows the kind told first. */
    private static void likeKinds() {
        GroundWaters x = new GroundWaters();
        x.cell(0, 4, 1);
        x.cell(0, 0, 1);
        x.well(0, 9, 0);
        x.drain(0, 10, 2);
        x.rate(0, 2);
        // 2 by the well, 2 by the drain: the head is 11
        x.river(0, 11, 0, 1);
        x.river(1, 11, 0, 1);
        due(21, "end(0): drain and well are like", x.end(0), 200);
        x.rain(0, 6);
        x.stage(0, 9);
        // 6 in all: river, drain and well 2 each, for the head is 11 as before
        due(13, "milli(0)", x.milli(0), 11000);
        due(21, "end(0): river, drain and well are like", x.end(0), 100);
        x.link(1, 0, 1);
        x.stage(1, 7);
        x.rain(0, 8);
        // 2 by the link too: head 9 in cell 1, whose river takes 2
        due(13, "milli(0)", x.milli(0), 11000);
        due(14, "flow(0)", x.flow(0), -2000);
        due(21, "end(0): link, river, drain and well are like", x.end(0), 101);
        due(20, "way(0, 1)", x.way(0, 1), 1);
    }

    /** Terms 2: "RIVERS by number", "DRAINS by number", "WELLS by number". */
    private static void likeOnesOfOneKind() {
        GroundWaters x = new GroundWaters();
        x.cell(0, 6, 1);
        for (int r = 0; r < 3; r++) x.river(0, 10, 0, 1);
        due(21, "end(0) of three like rivers", x.end(0), 100);
        GroundWaters y = new GroundWaters();
        y.cell(0, 6, 1);
        y.drain(0, 10, 1);
        y.drain(0, 10, 1);
        due(21, "end(0) of two like drains", y.end(0), 200);
        GroundWaters z = held(6);
        for (int w = 0; w < 3; w++) {
            z.well(0, 9, 0);
            z.rate(w, 2);
        }
        due(21, "end(0) of three like wells", z.end(0), 300);
    }

    /** Terms 2: "ENDS are told as 100 and the RIVER, 200 and the DRAIN, 300 and the WELL". */
    private static void allEnds() {
        for (int most = 0; most < 3; most++) {
            GroundWaters x = new GroundWaters();
            x.cell(0, 9, 1);
            for (int r = 0; r < 3; r++) x.river(0, 10, 0, r == most ? 2 : 1);
            due(21, "end(0): river " + most + " takes most", x.end(0), 100 + most);
            due(25, "spill(0, " + (100 + most) + ")", x.spill(0, 100 + most), 500000);
            GroundWaters z = held(9);
            for (int w = 0; w < 3; w++) {
                z.well(0, 9, 0);
                z.rate(w, w == most ? 5 : 2);
            }
            due(21, "end(0): well " + most + " takes most", z.end(0), 300 + most);
        }
        for (int most = 0; most < 2; most++) {
            GroundWaters y = new GroundWaters();
            y.cell(0, 9, 1);
            for (int d = 0; d < 2; d++) y.drain(0, 10, d == most ? 2 : 1);
            due(21, "end(0): drain " + most + " takes most", y.end(0), 200 + most);
        }
    }

    /** Terms 2: "NONE, if a CELL without OUTLETS is the last". */
    private static void noEnd() {
        GroundWaters x = Lands.pond();
        due(21, "end(0) of still water", x.end(0), NONE);
        due(20, "way(0, 1) of still water", x.way(0, 1), NONE);
        x.rain(0, 1);
        due(21, "end(0) with rain", x.end(0), 100);
    }

    /** Terms 2: "RIVERS by number that it gives to (HEAD above STAGE)": not at it, nor where the river gives. */
    private static void aRiverAtItsStage() {
        GroundWaters x = held(0);
        due(22, "time(0, true) with a head at the stage", x.time(0, true), NONE);
        due(25, "spill(0, 100) with a head at the stage", x.spill(0, 100), 0);
        x.rain(0, 1);
        due(25, "spill(0, 100) with a head above the stage", x.spill(0, 100), 1000000);
        x.rain(0, 0);
        x.well(0, 5, 0);
        x.rate(0, 1);
        due(25, "spill(0, 100) with a head below the stage", x.spill(0, 100), 0);
        due(25, "spill(0, 300)", x.spill(0, 300), 1000000);
    }

    /** Terms 2: "DRAINS by number that RUN": not at their level. */
    private static void aDrainAtItsLevel() {
        GroundWaters x = held(0);
        x.drain(0, 20, 1);
        due(21, "end(0) with a head at the level", x.end(0), NONE);
        due(25, "spill(0, 0)", x.spill(0, 0), 1000000);
        x.stage(0, 22);
        due(21, "end(0) with a head above the level", x.end(0), 200);
        due(25, "spill(0, 200)", x.spill(0, 200), 1000000);
        due(22, "time(0, true): 21 by 1", x.time(0, true), 21);
    }

    /** Terms 2: "WELLS by number with a RATE above 0". */
    private static void aWellOfRateNothing() {
        GroundWaters x = held(0);
        x.well(0, 5, 0);
        due(21, "end(0) with a rate of 0", x.end(0), NONE);
        due(25, "spill(0, 300) with a rate of 0", x.spill(0, 300), 0);
        x.rate(0, 1);
        due(21, "end(0) with a rate of 1", x.end(0), 300);
        due(22, "time(0, true): 19 by 1", x.time(0, true), 19);
    }

    /** Terms 2: "LINKS by number, by which water leaves it": between like heads none does. */
    private static void aLinkOfLikeHeads() {
        GroundWaters x = new GroundWaters();
        x.cell(0, 4, 1);
        x.cell(0, 4, 1);
        x.link(0, 1, 9);
        x.river(0, 10, 0, 1);
        x.river(1, 10, 0, 1);
        due(14, "flow(0) between like heads", x.flow(0), 0);
        due(21, "end(0)", x.end(0), 100);
        due(21, "end(1)", x.end(1), 101);
        due(25, "spill(0, 101)", x.spill(0, 101), 0);
        due(25, "spill(1, 100)", x.spill(1, 100), 0);
        due(22, "time(0, true): 14 by 4", x.time(0, true), 7);
    }

    /** Terms 2: "0, if it is DRY". */
    private static void timeOfADryCell() {
        GroundWaters x = new GroundWaters();
        x.cell(500, 1, 9);
        x.river(0, 10, 0, 1);
        due(22, "time(0, true) of a dry cell", x.time(0, true), 0);
        due(22, "time(0, false) of a dry cell", x.time(0, false), 1);
        due(23, "wayTime(0) of a dry cell", x.wayTime(0), 0);
    }

    private static void timeAtTheBottom() {
        GroundWaters x = new GroundWaters();
        x.cell(11, 1, 9);
        x.river(0, 10, 0, 1);
        due(17, "dry(0) at its bottom", x.dry(0), 0);
        due(22, "time(0, true) at its bottom", x.time(0, true), 0);
        due(22, "time(0, false) at its bottom", x.time(0, false), 1);
        x.stage(0, 11);
        due(22, "time(0, true): 9 times 1 by 1", x.time(0, true), 9);
        x.rain(0, 6);
        due(22, "time(0, true): 9 times 6 by 6", x.time(0, true), 9);
        x.stage(0, 10);
        due(22, "time(0, true): 9 times 5 by 6, in least terms", x.time(0, true), 15);
        due(22, "time(0, false)", x.time(0, false), 2);
    }

    /** Promise 22: "NONE, if it has no OUTLETS", told as a long likewise. */
    private static void timeWithoutOutlets() {
        GroundWaters x = Lands.pond();
        due(22, "time(0, true) without outlets", x.time(0, true), -10000009L);
        due(22, "time(0, false) without outlets", x.time(0, false), -10000009L);
    }

    /** Terms 2: "by all FLOWS of its OUTLETS together". */
    private static void timeByAllOutlets() {
        GroundWaters x = held(7);
        x.drain(0, 18, 1);
        x.well(0, 9, 0);
        x.well(0, 9, 0);
        x.rate(0, 1);
        x.rate(1, 2);
        // 7 - 3 = (h - 20) + (h - 18): h = 21; by the river 1, the drain 3, the wells 1 and 2
        due(22, "time(0, true): 21 by 7", x.time(0, true), 3);
        due(22, "time(0, false)", x.time(0, false), 1);
    }

    /** A time is told as longs: its sides do not wrap around. */
    private static void timesBeyondAnInt() {
        GroundWaters x = new GroundWaters();
        int[][] cells = {{0, 91, 8}, {0, 34, 5}, {403, 70, 9}, {245, 79, 9}, {0, 8, 9}, {38, 85, 7}};
        for (int[] c : cells) x.cell(c[0], c[1], c[2]);
        int[][] links = {{1, 0, 9}, {2, 0, 9}, {3, 0, 9}, {4, 2, 9}, {5, 4, 7}, {2, 3, 9}, {4, 1, 9}, {2, 3, 7}, {5, 1, 9}, {0, 5, 9}, {2, 5, 9}, {1, 3, 9}};
        for (int[] l : links) x.link(l[0], l[1], l[2]);
        x.river(5, 961, 70, 8);
        x.river(1, 998, 90, 9);
        x.river(4, 911, 56, 9);
        x.drain(2, 951, 8);
        x.drain(1, 921, 8);
        // worked out by fractions without bound
        long[] above = {10624780696792L, 367722390995L, 767039468067L, 989828266221L, 145107242878L, 989401012103L};
        long[] below = {125449490439L, 32980590428L, 26934439052L, 12621437272L, 5565746187L, 16937520293L};
        for (int c = 0; c < 6; c++) {
            due(22, "time(" + c + ", true) beyond an int", x.time(c, true), above[c]);
            due(22, "time(" + c + ", false) beyond an int", x.time(c, false), below[c]);
        }
    }

    /** Of rain of 1 nearly all leaves by three rivers, then nearly all by a drain; a 338th part comes to cell 2. */
    private static void aVeryLongTime() {
        GroundWaters x = new GroundWaters();
        for (int c = 0; c < 3; c++) x.cell(0, c == 0 ? 1 : 0, 9);
        x.link(0, 1, 1);
        x.link(1, 2, 1);
        for (int r = 0; r < 3; r++) x.river(0, 1000, 0, 9);
        x.drain(1, 1000, 9);
        x.drain(2, 1000, 9);
        // heads 1000 and 109, 10, 1 by 3042
        due(12, "head(2, true)", x.head(2, true), 3042001);
        due(12, "head(2, false)", x.head(2, false), 3042);
        due(16, "takes(1): 1/338", x.takes(1), 2);
        due(22, "time(2, true): 9 times 1000 1/3042 by 1/338", x.time(2, true), 3042001);
        due(22, "time(2, false)", x.time(2, false), 1);
        due(23, "wayTime(2) beyond an int", x.wayTime(2), 3042001000L);
        due(21, "end(2)", x.end(2), 201);
        due(23, "wayTime(1): 3042010 by 11", x.wayTime(1), 276546363);
        due(21, "end(1)", x.end(1), 200);
    }

    /** Terms 2: "of THE WAY: MILLI of each CELL of it together". */
    private static void wayTimeIsCutCellByCell() {
        GroundWaters x = row(3);
        // heads 1, 2, 3 above bottoms 0, 1, 2: a third in each
        due(22, "time(2, true)", x.time(2, true), 1);
        due(22, "time(2, false)", x.time(2, false), 3);
        due(23, "wayTime(0)", x.wayTime(0), 333);
        due(23, "wayTime(1)", x.wayTime(1), 666);
        due(23, "wayTime(2): three times 333", x.wayTime(2), 999);
        due(23, "wayTime(5) of all cells: six times 333", row(6).wayTime(5), 1998);
    }

    /** Terms 2: "(those that have OUTLETS)". */
    private static void wayTimeWithoutOutlets() {
        GroundWaters x = Lands.pond();
        due(23, "wayTime(0) without outlets", x.wayTime(0), 0L);
        x.rain(0, 1);
        due(23, "wayTime(0): 101 by 1", x.wayTime(0), 101000L);
    }

    private static void wayTimeOfDryCells() {
        GroundWaters x = new GroundWaters();
        x.cell(0, 0, 1);
        x.cell(400, 2, 9);
        x.link(1, 0, 1);
        x.river(0, 10, 0, 1);
        due(17, "dry(1)", x.dry(1), 1);
        due(23, "wayTime(1): the dry cell adds nothing, the next one 12 by 2", x.wayTime(1), 6000);
    }

    /** Terms 2: "(its own CELL too, if its RATE is above 0)". */
    private static void zoneOfRateNothing() {
        GroundWaters x = row(3);
        x.well(0, 9, 0);
        due(24, "zone(0) with a rate of 0", x.zone(0), 0);
        x.rate(0, 1);
        due(24, "zone(0) with a rate of 1", x.zone(0), 7);
        x.rate(0, 0);
        due(24, "zone(0) with a rate of 0 again", x.zone(0), 0);
    }

    private static void zoneOfItsOwnCell() {
        GroundWaters x = row(3);
        x.well(2, 9, 0);
        x.rate(0, 1);
        due(24, "zone(0) at the head of the way", x.zone(0), 4);
        GroundWaters y = Lands.pond();
        y.well(0, 9, 0);
        y.rate(0, 9);
        due(24, "zone(0) of one cell", y.zone(0), 1);
    }

    /** Terms 2: "all CELLS from which water comes to it, by OUTLETS": by any, not by the greatest alone. */
    private static void zoneByLesserOutlets() {
        GroundWaters x = new GroundWaters();
        x.cell(0, 20, 1);
        x.cell(0, 0, 1);
        x.cell(0, 0, 1);
        x.link(0, 1, 1);
        x.link(1, 2, 1);
        x.river(0, 10, 0, 9);
        x.well(1, 1, 0);
        x.rate(0, 1);
        x.drain(2, 9, 1);
        due(21, "end(0): most goes to the river", x.end(0), 100);
        due(24, "zone(0): cell 0 feeds it all the same, cell 2 does not", x.zone(0), 3);
    }

    private static void zoneOfAllCells() {
        GroundWaters x = row(6);
        x.well(0, 9, 0);
        x.well(5, 9, 0);
        x.rate(0, 1);
        x.rate(1, 1);
        due(24, "zone(0) at the end of the way", x.zone(0), 63);
        due(24, "zone(1) at its head", x.zone(1), 32);
    }

    /** Cells 2 .. 0 in a row, water goes down; a well in each, and each link told from either side. */
    private static void zoneByLinksToldEitherWay() {
        for (int told = 0; told < 4; told++) {
            GroundWaters x = new GroundWaters();
            for (int c = 0; c < 4; c++) x.cell(0, c == 2 ? 20 : 0, 1);
            x.link(told & 1, 1 - (told & 1), 2);
            x.link(1 + (told >> 1), 2 - (told >> 1), 2);
            // cell 3 takes water off from cell 1
            x.link(told > 1 ? 3 : 1, told > 1 ? 1 : 3, 2);
            x.river(0, 5, 0, 1);
            x.river(3, 5, 0, 1);
            for (int w = 0; w < 3; w++) {
                x.well(w, 1, 0);
                x.rate(w, 1);
            }
            due(24, "zone(0), links told as " + told, x.zone(0), 7);
            due(24, "zone(1), links told as " + told, x.zone(1), 6);
            due(24, "zone(2), links told as " + told, x.zone(2), 4);
        }
    }

    /** All eases 1, a flow of 1: no flow inside can be told by a smaller number. */
    private static void zoneOfTheSmallestFlow() {
        for (int told = 0; told < 2; told++) {
            GroundWaters x = new GroundWaters();
            x.cell(0, 0, 1);
            x.cell(0, 1, 1);
            x.link(told, 1 - told, 1);
            x.river(0, 5, 0, 1);
            x.well(0, 1, 0);
            x.rate(0, 1);
            due(14, "flow(0)", x.flow(0), told == 1 ? 1000 : -1000);
            due(24, "zone(0), the link told from cell " + told, x.zone(0), 3);
            x.rain(1, 0);
            due(24, "zone(0) with no flow", x.zone(0), 1);
        }
    }

    /** Terms 2: "Without OUTLETS it stays." */
    private static void spillWithoutOutlets() {
        GroundWaters x = Lands.pond();
        x.cell(0, 0, 1);
        x.link(0, 1, 1);
        due(25, "spill(0, 0) of still water", x.spill(0, 0), 1000000);
        due(25, "spill(0, 1) of still water", x.spill(0, 1), 0);
        due(25, "spill(1, 1) of still water", x.spill(1, 1), 1000000);
        due(25, "spill(0, 100) of still water", x.spill(0, 100), 0);
        x.rain(1, 1);
        due(25, "spill(1, 1) of water that goes", x.spill(1, 1), 0);
        due(25, "spill(1, 0)", x.spill(1, 0), 0);
        due(25, "spill(1, 100)", x.spill(1, 100), 1000000);
    }

    private static void spillThatNeverComesThere() {
        GroundWaters x = row(3);
        x.well(2, 9, 0);
        x.rate(0, 1);
        due(25, "spill(1, 300): the well lies above", x.spill(1, 300), 0);
        due(25, "spill(1, 2)", x.spill(1, 2), 0);
        due(25, "spill(2, 300): a third", x.spill(2, 300), 333333);
        due(25, "spill(2, 100): two thirds, and what is left over", x.spill(2, 100), 666667);
        due(25, "spill(0, 100)", x.spill(0, 100), 1000000);
    }

    /** Terms 2: "each its share by FLOW, cut to whole parts; what is left over goes by the first of the greatest FLOW, too". */
    private static void spillIsCut() {
        for (int most = 0; most < 3; most++) {
            GroundWaters x = held(17);
            for (int w = 0; w < 3; w++) {
                x.well(0, 99, 0);
                x.rate(w, w == most ? 15 : 1);
            }
            // a 17th of the parts is 58823 9/17, fifteen are 882352 16/17: 2 parts are left over
            for (int w = 0; w < 3; w++) due(25, "spill(0, " + (300 + w) + ") where well " + most + " takes most", x.spill(0, 300 + w), w == most ? 882354 : 58823);
        }
        GroundWaters y = held(7);
        for (int w = 0; w < 3; w++) {
            y.well(0, 99, 0);
            y.rate(w, w == 0 ? 1 : 3);
        }
        due(25, "spill(0, 300)", y.spill(0, 300), 142857);
        due(25, "spill(0, 301): the first of the greatest", y.spill(0, 301), 428572);
        due(25, "spill(0, 302)", y.spill(0, 302), 428571);
    }

    private static void spillOfOneOutlet() {
        GroundWaters x = row(6);
        for (int c = 0; c < 6; c++) {
            due(25, "spill(" + c + ", 100)", x.spill(c, 100), 1000000);
            due(25, "spill(" + c + ", " + c + ")", x.spill(c, c), 0);
        }
    }

    private static void spillCutTwice() {
        GroundWaters x = row(2);
        for (int w = 0; w < 2; w++) {
            x.well(1 - w, 9, 0);
            x.rate(w, 1);
        }
        // of 3 in cell 1 one goes by well 0: 333333; of 666667 one of two goes by well 1 in cell 0
        due(25, "spill(1, 300)", x.spill(1, 300), 333333);
        due(25, "spill(1, 301): half of 666667, cut", x.spill(1, 301), 333333);
        due(25, "spill(1, 100): the other half, and what is left over", x.spill(1, 100), 333334);
    }

    /** Seven links to one cell: each share is cut, but nothing is lost. */
    private static void spillByManyLinks() {
        GroundWaters x = new GroundWaters();
        x.cell(0, 7, 1);
        x.cell(0, 0, 1);
        x.cell(0, 0, 1);
        for (int i = 0; i < 7; i++) x.link(i % 2 == 0 ? 0 : 1, i % 2 == 0 ? 1 : 0, 1);
        x.link(0, 2, 1);
        x.river(1, 0, 0, 1);
        x.river(2, 0, 0, 1);
        // 7 (h0 - h1) = h1 and h0 - h2 = h2: h0 = 56/11, h1 = 49/11, h2 = 28/11
        due(12, "head(0, true)", x.head(0, true), 56);
        // seven links of 7/11 and one of 28/11: an eleventh each, and four
        due(20, "way(0, 1): by the one link", x.way(0, 1), 2);
        due(25, "spill(0, 100): seven times 90909", x.spill(0, 100), 636363);
        due(25, "spill(0, 101): 363636, and what is left over", x.spill(0, 101), 363637);
    }

    /** All but one, which takes what the links carry off: 12 links, 3 rivers, a drain and 3 wells, a 19th by each. */
    private static void allOutletsThatThereMayBe() {
        GroundWaters x = new GroundWaters();
        x.cell(0, 19, 1);
        x.cell(0, 0, 1);
        for (int l = 0; l < 12; l++) x.link(l % 2, 1 - l % 2, 1);
        for (int r = 0; r < 3; r++) x.river(0, 13, 0, 1);
        x.drain(0, 13, 1);
        x.drain(1, 10, 4);
        for (int w = 0; w < 3; w++) {
            x.well(0, 9, 0);
            x.rate(w, 1);
        }
        due(13, "milli(0)", x.milli(0), 14000);
        due(13, "milli(1)", x.milli(1), 13000);
        due(21, "end(0): the first of 19 like outlets", x.end(0), 201);
        due(22, "time(0, true): 14 by 19", x.time(0, true), 14);
        due(22, "time(0, false)", x.time(0, false), 19);
        for (int end : new int[] {100, 101, 102, 200, 300, 301, 302}) due(25, "spill(0, " + end + ")", x.spill(0, end), 52631);
        due(25, "spill(0, 201): twelve times 52631, and 11 that are left over", x.spill(0, 201), 631583);
        for (int w = 0; w < 3; w++) due(24, "zone(" + w + ")", x.zone(w), 1);
    }

    /** Promise 25: "UNKNOWN: cell, end". */
    private static void endsThatAreNotThere() {
        GroundWaters x = row(2);
        x.drain(0, 0, 1);
        x.well(0, 9, 0);
        for (int end : new int[] {2, 5, 6, 99, 101, 102, 103, 199, 201, 202, 299, 301, 302, 303, 400, -1, -100, MIN, MAX, MIN + 300}) {
            due(25, "spill(0, " + end + ")", x.spill(0, end), UNKNOWN);
        }
        for (int end : new int[] {100, 200, 300, 0, 1}) due(25, "spill(0, " + end + ") is known", x.spill(0, end) >= 0 ? 1 : 0, 1);
        for (int c : new int[] {2, 5, 6, -1, MIN, MAX}) due(25, "spill(" + c + ", 0)", x.spill(c, 0), UNKNOWN);
    }

    private static void refusals() {
        GroundWaters x = new GroundWaters();
        x.cell(0, 0, 1);
        x.well(0, 9, 0);
        due(20, "way(1, 0)", x.way(1, 0), UNKNOWN);
        due(20, "way(0, 0)", x.way(0, 0), STATE);
        due(20, "way(0, 9): STATE, not NONE", x.way(0, 9), STATE);
        due(21, "end(1)", x.end(1), UNKNOWN);
        due(21, "end(0)", x.end(0), STATE);
        due(22, "time(1, true)", x.time(1, true), -10000001L);
        due(22, "time(0, true)", x.time(0, true), -10000003L);
        due(23, "wayTime(1)", x.wayTime(1), -10000001L);
        due(23, "wayTime(0)", x.wayTime(0), -10000003L);
        due(24, "zone(1)", x.zone(1), UNKNOWN);
        due(24, "zone(0)", x.zone(0), STATE);
        due(25, "spill(0, 1): UNKNOWN is told first", x.spill(0, 1), UNKNOWN);
        due(25, "spill(0, 0)", x.spill(0, 0), STATE);
        due(25, "spill(0, 300)", x.spill(0, 300), STATE);
    }
}
