/**
 * Promises 1 to 10, sentence by sentence: each boundary case that the document names has a test of its own here. That
 * a refused call changes nothing, and which refusal comes first, stands in RefusalsTest.
 */
public final class EdgesLandTest {
    private static final Check CHECK = new Check("EdgesLandTest");
    private static final int UNKNOWN = Lands.UNKNOWN, BAD = Lands.BAD, STATE = Lands.STATE, FULL = Lands.FULL, NONE = Lands.NONE;

    public static void main(String[] args) {
        noCells();
        noCellsNoRest();
        objectsAreApart();
        lastOfAllCalls();
        sixCells();
        bottoms();
        rains();
        stores();
        aCellAtFirst();
        numbersAfterRefusals();
        twelveLinks();
        easesOfLinks();
        unlikeCells();
        threeRivers();
        stages();
        beds();
        easesOfRivers();
        twoDrains();
        levels();
        easesOfDrains();
        threeWells();
        caps();
        worths();
        rateAtFirst();
        rainThatChanges();
        easeThatChanges();
        ratesUpToCap();
        stagesDownToBed();
        CHECK.covers(1, 10);
        CHECK.end();
    }

    private static void due(int promise, String call, long got, long want) {
        CHECK.due(promise, call, got, want);
    }

    /** As many cells as are asked for, with nothing in them. */
    private static GroundWaters cells(int n) {
        GroundWaters x = new GroundWaters();
        for (int i = 0; i < n; i++) x.cell(0, 0, 1);
        return x;
    }

    /** Promise 1: "No CELLS." Nor anything else, so that no number is known. */
    private static void noCells() {
        GroundWaters x = new GroundWaters();
        for (int what = 0; what <= 8; what++) due(1, "count(" + what + ")", x.count(what), 0);
        due(1, "rain(0, 0)", x.rain(0, 0), UNKNOWN);
        due(1, "ease(0, 1)", x.ease(0, 1), UNKNOWN);
        due(1, "rate(0, 0)", x.rate(0, 0), UNKNOWN);
        due(1, "stage(0, 0)", x.stage(0, 0), UNKNOWN);
        due(1, "link(0, 1, 1)", x.link(0, 1, 1), UNKNOWN);
        due(1, "river(0, 1, 0, 1)", x.river(0, 1, 0, 1), UNKNOWN);
        due(1, "drain(0, 1, 1)", x.drain(0, 1, 1), UNKNOWN);
        due(1, "well(0, 1, 1)", x.well(0, 1, 1), UNKNOWN);
        due(1, "world(0, 1)", x.world(0, 1), UNKNOWN);
        due(1, "see(0, 0, 0)", x.see(0, 0, 0), UNKNOWN);
        due(1, "cups(0)", x.cups(0), UNKNOWN);
        due(1, "mark(0)", x.mark(0), UNKNOWN);
        due(1, "pour(0, 0)", x.pour(0, 0), UNKNOWN);
        due(1, "limit(0, 0)", x.limit(0, 0), UNKNOWN);
        due(1, "tick(100): all cups are 0", x.tick(100), 0);
        for (int b = 0; b < 6; b++) due(1, "book(" + b + ")", x.book(b), 0);
        due(1, "wipe()", x.wipe(), 0);
        due(1, "fault()", x.fault(), NONE);
    }

    /** Terms 1: "Without CELLS there is none." */
    private static void noCellsNoRest() {
        GroundWaters x = new GroundWaters();
        due(1, "pattern() without cells", x.pattern(), NONE);
        due(1, "through(true) without cells", x.through(true), STATE);
        due(1, "holds() without cells", x.holds(), STATE);
        due(1, "worth() without cells", x.worth(), NONE);
        due(1, "draw() without cells", x.draw(), NONE);
        due(1, "left() without cells", x.left(), 0);
        due(1, "next() without cells", x.next(), NONE);
    }

    private static void objectsAreApart() {
        GroundWaters x = Lands.full(), y = new GroundWaters();
        for (int what = 0; what <= 8; what++) due(1, "count(" + what + ") of an object beside a full one", y.count(what), 0);
        y.cell(1, 2, 3);
        due(1, "count(0) of the full one", x.count(0), 6);
        due(1, "limit(0, 0): none yet", y.limit(0, 0), NONE);
    }

    /** "An object is used for at most 512 calls": the last of them is answered like the first. */
    private static void lastOfAllCalls() {
        GroundWaters x = Lands.pond();
        for (int i = 3; i <= 510; i++) x.stage(0, i);
        due(1, "stage(0, 7), call 511", x.stage(0, 7), 510);
        due(1, "milli(0), call 512", x.milli(0), 7000);
    }

    /** Terms 1: "CELLS 0 .. 5 (6 at most)". */
    private static void sixCells() {
        GroundWaters x = new GroundWaters();
        for (int i = 0; i < 6; i++) due(2, "cell " + i, x.cell(0, 0, 1), i);
        due(2, "a seventh cell", x.cell(0, 0, 1), FULL);
        due(2, "a seventh cell, once more", x.cell(500, 99, 9), FULL);
        due(2, "a seventh cell with a bad store: BAD is told first", x.cell(0, 0, 0), BAD);
        due(2, "count(0)", x.count(0), 6);
        due(2, "cups(5): the last one is there", x.cups(5), 0);
        due(2, "cups(6): the seventh one is not", x.cups(6), UNKNOWN);
    }

    /** Terms 1: "a BOTTOM (0 .. 500)". */
    private static void bottoms() {
        GroundWaters x = new GroundWaters();
        due(2, "cell(-1, 0, 1)", x.cell(-1, 0, 1), BAD);
        due(2, "cell(501, 0, 1)", x.cell(501, 0, 1), BAD);
        due(2, "cell(min, 0, 1)", x.cell(Lands.MIN, 0, 1), BAD);
        due(2, "cell(max, 0, 1)", x.cell(Lands.MAX, 0, 1), BAD);
        due(2, "cell(0, 0, 1)", x.cell(0, 0, 1), 0);
        due(2, "cell(500, 0, 1)", x.cell(500, 0, 1), 1);
        due(2, "mark(0): the lowest bottom", x.mark(0), 0);
        due(2, "mark(1): the highest bottom", x.mark(1), 500);
    }

    /** Terms 1: "RAIN (0 .. 99)". */
    private static void rains() {
        GroundWaters x = new GroundWaters();
        due(2, "cell(0, -1, 1)", x.cell(0, -1, 1), BAD);
        due(2, "cell(0, 100, 1)", x.cell(0, 100, 1), BAD);
        due(2, "cell(0, min, 1)", x.cell(0, Lands.MIN, 1), BAD);
        due(2, "cell(0, max, 1)", x.cell(0, Lands.MAX, 1), BAD);
        due(2, "cell(0, 0, 1)", x.cell(0, 0, 1), 0);
        due(2, "cell(0, 99, 1)", x.cell(0, 99, 1), 1);
        due(2, "tick(1): the most rain and the least", x.tick(1), 99);
    }

    /** Terms 1: "a STORE (1 .. 9)". */
    private static void stores() {
        GroundWaters x = new GroundWaters();
        due(2, "cell(0, 0, 0)", x.cell(0, 0, 0), BAD);
        due(2, "cell(0, 0, -1)", x.cell(0, 0, -1), BAD);
        due(2, "cell(0, 0, 10)", x.cell(0, 0, 10), BAD);
        due(2, "cell(0, 0, min)", x.cell(0, 0, Lands.MIN), BAD);
        due(2, "cell(0, 0, max)", x.cell(0, 0, Lands.MAX), BAD);
        due(2, "cell(0, 0, 1)", x.cell(0, 0, 1), 0);
        due(2, "cell(0, 0, 9)", x.cell(0, 0, 9), 1);
        x.pour(0, 81);
        x.pour(1, 81);
        due(2, "mark(0) with the least store", x.mark(0), 81);
        due(2, "mark(1) with the greatest store", x.mark(1), 9);
    }

    /** A cell that comes late is as empty as the first one: no cups, no limit, nothing seen. */
    private static void aCellAtFirst() {
        GroundWaters x = cells(5);
        for (int c = 0; c < 5; c++) {
            x.pour(c, 9);
            x.limit(c, 9);
            x.see(c, 9, 9);
        }
        due(2, "cell(7, 1, 1)", x.cell(7, 1, 1), 5);
        due(2, "cups(5)", x.cups(5), 0);
        due(2, "mark(5)", x.mark(5), 7);
        due(2, "count(7)", x.count(7), 5);
        due(2, "limit(5, 0)", x.limit(5, 0), NONE);
    }

    private static void numbersAfterRefusals() {
        GroundWaters x = new GroundWaters();
        x.cell(-1, 0, 1);
        due(2, "cell(0, 0, 1) behind a refused one", x.cell(0, 0, 1), 0);
        x.cell(0, 100, 1);
        due(2, "cell(0, 0, 1) behind a refused one", x.cell(0, 0, 1), 1);
        x.link(0, 1, 0);
        x.link(1, 1, 1);
        due(3, "link(0, 1, 1) behind two refused ones", x.link(0, 1, 1), 0);
        x.river(0, 5, 6, 1);
        due(4, "river(0, 5, 5, 1) behind a refused one", x.river(0, 5, 5, 1), 0);
        x.drain(0, 1001, 1);
        due(5, "drain(0, 1000, 1) behind a refused one", x.drain(0, 1000, 1), 0);
        x.well(0, 100, 1);
        due(6, "well(0, 99, 1) behind a refused one", x.well(0, 99, 1), 0);
    }

    /** Terms 1: "LINKS 0 .. 11 (12 at most)". */
    private static void twelveLinks() {
        GroundWaters x = cells(3);
        for (int i = 0; i < 12; i++) due(3, "link " + i + ": several may join the same cells", x.link(i % 3, (i + 1) % 3, 1), i);
        due(3, "a thirteenth link", x.link(0, 1, 1), FULL);
        due(3, "a thirteenth link of one cell: STATE is told first", x.link(1, 1, 1), STATE);
        due(3, "a thirteenth link of ease 10: BAD is told first", x.link(0, 1, 10), BAD);
        due(3, "a thirteenth link to no cell: UNKNOWN is told first", x.link(0, 3, 1), UNKNOWN);
        due(3, "count(1)", x.count(1), 12);
        due(3, "ease(11, 2): the last one is there", x.ease(11, 2), 1);
        due(3, "ease(12, 2): the thirteenth is not", x.ease(12, 2), UNKNOWN);
    }

    /** Terms 1: "each of these has an EASE (1 .. 9)". */
    private static void easesOfLinks() {
        GroundWaters x = cells(2);
        for (int e : new int[] {0, 10, -1, Lands.MIN, Lands.MAX}) due(3, "link(0, 1, " + e + ")", x.link(0, 1, e), BAD);
        due(3, "link(0, 1, 1)", x.link(0, 1, 1), 0);
        due(3, "link(0, 1, 9)", x.link(0, 1, 9), 1);
        due(3, "ease(0, 5): the least", x.ease(0, 5), 1);
        due(3, "ease(1, 5): the greatest", x.ease(1, 5), 9);
    }

    /** Terms 1: LINKS "join two unlike CELLS"; promise 3: "STATE: both are one". */
    private static void unlikeCells() {
        GroundWaters x = cells(6);
        for (int c = 0; c < 6; c++) due(3, "link(" + c + ", " + c + ", 1)", x.link(c, c, 1), STATE);
        due(3, "link(6, 6, 1): no such cell", x.link(6, 6, 1), UNKNOWN);
        due(3, "link(-1, -1, 1): no such cell", x.link(-1, -1, 1), UNKNOWN);
        due(3, "link(-1, 0, 1)", x.link(-1, 0, 1), UNKNOWN);
        due(3, "link(0, -1, 1)", x.link(0, -1, 1), UNKNOWN);
        due(3, "link(6, 0, 1)", x.link(6, 0, 1), UNKNOWN);
        due(3, "link(0, 6, 1)", x.link(0, 6, 1), UNKNOWN);
        due(3, "link(2, 2, 0): BAD is told first", x.link(2, 2, 0), BAD);
        due(3, "link(0, 5, 1)", x.link(0, 5, 1), 0);
        due(3, "link(5, 0, 1)", x.link(5, 0, 1), 1);
    }

    /** Terms 1: "RIVERS 0 .. 2 (3)". */
    private static void threeRivers() {
        GroundWaters x = cells(1);
        for (int r = 0; r < 3; r++) due(4, "river " + r + ": several may run in one cell", x.river(0, 9, 1, 1), r);
        due(4, "a fourth river", x.river(0, 9, 1, 1), FULL);
        due(4, "a fourth river of ease 0: BAD is told first", x.river(0, 9, 1, 0), BAD);
        due(4, "a fourth river in no cell: UNKNOWN is told first", x.river(1, 9, 1, 1), UNKNOWN);
        due(4, "count(2)", x.count(2), 3);
        due(4, "stage(2, 9): the last one is there", x.stage(2, 9), 9);
        due(4, "stage(3, 9): the fourth is not", x.stage(3, 9), UNKNOWN);
    }

    /** Terms 1: "a STAGE (0 .. 1000)". */
    private static void stages() {
        GroundWaters x = cells(1);
        for (int s : new int[] {-1, 1001, Lands.MIN, Lands.MAX}) due(4, "river(0, " + s + ", 0, 1)", x.river(0, s, 0, 1), BAD);
        due(4, "river(0, 0, 0, 1)", x.river(0, 0, 0, 1), 0);
        due(4, "river(0, 1000, 0, 1)", x.river(0, 1000, 0, 1), 1);
        due(4, "stage(0, 5): the lowest", x.stage(0, 5), 0);
        due(4, "stage(1, 5): the highest", x.stage(1, 5), 1000);
    }

    /** Terms 1: "a BED (0 .. STAGE)". */
    private static void beds() {
        GroundWaters x = cells(1);
        due(4, "river(0, 30, 31, 1)", x.river(0, 30, 31, 1), BAD);
        due(4, "river(0, 30, -1, 1)", x.river(0, 30, -1, 1), BAD);
        due(4, "river(0, 0, 1, 1)", x.river(0, 0, 1, 1), BAD);
        due(4, "river(0, 1000, 1001, 1)", x.river(0, 1000, 1001, 1), BAD);
        due(4, "river(0, 30, min, 1)", x.river(0, 30, Lands.MIN, 1), BAD);
        due(4, "river(0, 30, max, 1)", x.river(0, 30, Lands.MAX, 1), BAD);
        due(4, "river(0, -1, -1, 1): a bed at its stage does not help", x.river(0, -1, -1, 1), BAD);
        due(4, "river(0, 1001, 1001, 1)", x.river(0, 1001, 1001, 1), BAD);
        due(4, "river(0, 30, 30, 1): a bed at its stage", x.river(0, 30, 30, 1), 0);
        due(4, "river(0, 30, 0, 1): a bed at 0", x.river(0, 30, 0, 1), 1);
        due(4, "river(0, 1000, 1000, 1)", x.river(0, 1000, 1000, 1), 2);
        due(4, "stage(0, 29): below its bed", x.stage(0, 29), BAD);
        due(4, "stage(1, 0): at its bed", x.stage(1, 0), 30);
        due(4, "stage(2, 999): below its bed", x.stage(2, 999), BAD);
    }

    private static void easesOfRivers() {
        GroundWaters x = cells(2);
        for (int e : new int[] {0, 10, -1, Lands.MIN, Lands.MAX}) due(4, "river(0, 9, 0, " + e + ")", x.river(0, 9, 0, e), BAD);
        due(4, "river(0, 10, 0, 1)", x.river(0, 10, 0, 1), 0);
        due(4, "river(1, 10, 0, 9)", x.river(1, 10, 0, 9), 1);
        x.rain(0, 9);
        x.rain(1, 9);
        due(4, "milli(0): 9 go by an ease of 1", x.milli(0), 19000);
        due(4, "milli(1): 9 go by an ease of 9", x.milli(1), 11000);
        due(4, "river(2, 9, 0, 1): no such cell", x.river(2, 9, 0, 1), UNKNOWN);
        due(4, "river(-1, 9, 0, 1): no such cell", x.river(-1, 9, 0, 1), UNKNOWN);
    }

    /** Terms 1: "DRAINS 0, 1 (2)". */
    private static void twoDrains() {
        GroundWaters x = cells(1);
        due(5, "drain 0", x.drain(0, 9, 1), 0);
        due(5, "drain 1: two may lie in one cell", x.drain(0, 9, 1), 1);
        due(5, "a third drain", x.drain(0, 9, 1), FULL);
        due(5, "a third drain of ease 10: BAD is told first", x.drain(0, 9, 10), BAD);
        due(5, "a third drain in no cell: UNKNOWN is told first", x.drain(1, 9, 1), UNKNOWN);
        due(5, "count(3)", x.count(3), 2);
        due(5, "takes(1): the last one is there", x.takes(1), STATE);
        due(5, "takes(2): the third is not", x.takes(2), UNKNOWN);
    }

    /** Terms 1: "at a LEVEL (0 .. 1000)". */
    private static void levels() {
        GroundWaters x = cells(2);
        for (int v : new int[] {-1, 1001, Lands.MIN, Lands.MAX}) due(5, "drain(0, " + v + ", 1)", x.drain(0, v, 1), BAD);
        due(5, "drain(0, 0, 1)", x.drain(0, 0, 1), 0);
        due(5, "drain(1, 1000, 1)", x.drain(1, 1000, 1), 1);
        x.rain(0, 1);
        x.rain(1, 1);
        due(5, "milli(0) above the lowest level", x.milli(0), 1000);
        due(5, "milli(1) above the highest level", x.milli(1), 1001000);
        due(5, "drain(2, 5, 1): no such cell", x.drain(2, 5, 1), UNKNOWN);
        due(5, "drain(-1, 5, 1): no such cell", x.drain(-1, 5, 1), UNKNOWN);
    }

    private static void easesOfDrains() {
        GroundWaters x = cells(2);
        for (int e : new int[] {0, 10, -1, Lands.MIN, Lands.MAX}) due(5, "drain(0, 9, " + e + ")", x.drain(0, 9, e), BAD);
        due(5, "drain(0, 10, 1)", x.drain(0, 10, 1), 0);
        due(5, "drain(1, 10, 9)", x.drain(1, 10, 9), 1);
        x.rain(0, 9);
        x.rain(1, 9);
        due(5, "milli(0): 9 go by an ease of 1", x.milli(0), 19000);
        due(5, "milli(1): 9 go by an ease of 9", x.milli(1), 11000);
    }

    /** Terms 1: "WELLS 0 .. 2 (3)". */
    private static void threeWells() {
        GroundWaters x = cells(1);
        for (int w = 0; w < 3; w++) due(6, "well " + w + ": several may stand in one cell", x.well(0, 9, 1), w);
        due(6, "a fourth well", x.well(0, 9, 1), FULL);
        due(6, "a fourth well of cap 100: BAD is told first", x.well(0, 100, 1), BAD);
        due(6, "a fourth well in no cell: UNKNOWN is told first", x.well(1, 9, 1), UNKNOWN);
        due(6, "count(4)", x.count(4), 3);
        due(6, "rate(2, 1): the last one is there", x.rate(2, 1), 0);
        due(6, "rate(3, 1): the fourth is not", x.rate(3, 1), UNKNOWN);
    }

    /** Terms 1: "a CAP (0 .. 99)". */
    private static void caps() {
        GroundWaters x = cells(1);
        for (int v : new int[] {-1, 100, Lands.MIN, Lands.MAX}) due(6, "well(0, " + v + ", 1)", x.well(0, v, 1), BAD);
        due(6, "well(0, 0, 1)", x.well(0, 0, 1), 0);
        due(6, "well(0, 99, 1)", x.well(0, 99, 1), 1);
        due(6, "rate(0, 1): its cap is 0", x.rate(0, 1), BAD);
        due(6, "rate(1, 99): its cap is 99", x.rate(1, 99), 0);
        due(6, "well(1, 5, 1): no such cell", x.well(1, 5, 1), UNKNOWN);
        due(6, "well(-1, 5, 1): no such cell", x.well(-1, 5, 1), UNKNOWN);
    }

    /** Terms 1: "a WORTH (0 .. 99)". */
    private static void worths() {
        GroundWaters x = Lands.pond();
        for (int v : new int[] {-1, 100, Lands.MIN, Lands.MAX}) due(6, "well(0, 5, " + v + ")", x.well(0, 5, v), BAD);
        due(6, "well(0, 1, 0)", x.well(0, 1, 0), 0);
        due(6, "worth() of the least worth", x.worth(), 0);
        due(6, "well(0, 1, 99)", x.well(0, 1, 99), 1);
        due(6, "worth() of the greatest worth", x.worth(), 99);
    }

    /** Terms 1: "a RATE (0 .. CAP; 0 at first)". */
    private static void rateAtFirst() {
        GroundWaters x = Lands.pond();
        for (int w = 0; w < 3; w++) x.well(0, 99, 1);
        for (int w = 0; w < 3; w++) due(6, "rate(" + w + ", 0): what it was at first", x.rate(w, 0), 0);
        due(6, "milli(0): wells at first take nothing", x.milli(0), 100000);
    }

    /** Promise 7: "RAIN of a CELL: what it was. UNKNOWN; BAD." */
    private static void rainThatChanges() {
        GroundWaters x = cells(2);
        for (int v : new int[] {-1, 100, Lands.MIN, Lands.MAX}) due(7, "rain(0, " + v + ")", x.rain(0, v), BAD);
        due(7, "rain(0, 0): the least, as it was", x.rain(0, 0), 0);
        due(7, "rain(0, 99): the most", x.rain(0, 99), 0);
        due(7, "rain(0, 100)", x.rain(0, 100), BAD);
        due(7, "rain(0, 99): what it was, though one was refused", x.rain(0, 99), 99);
        due(7, "rain(1, 5): the other cell's", x.rain(1, 5), 0);
        due(7, "rain(2, 0): no such cell", x.rain(2, 0), UNKNOWN);
        due(7, "rain(-1, 0): no such cell", x.rain(-1, 0), UNKNOWN);
        due(7, "rain(2, 100): UNKNOWN is told first", x.rain(2, 100), UNKNOWN);
    }

    /** Promise 8: "EASE of a LINK: what it was. UNKNOWN; BAD." */
    private static void easeThatChanges() {
        GroundWaters x = cells(2);
        x.link(0, 1, 3);
        x.link(0, 1, 4);
        for (int v : new int[] {0, 10, -1, Lands.MIN, Lands.MAX}) due(8, "ease(0, " + v + ")", x.ease(0, v), BAD);
        due(8, "ease(0, 1): the least", x.ease(0, 1), 3);
        due(8, "ease(0, 9): the greatest", x.ease(0, 9), 1);
        due(8, "ease(0, 10)", x.ease(0, 10), BAD);
        due(8, "ease(0, 9): what it was, though one was refused", x.ease(0, 9), 9);
        due(8, "ease(1, 4): the other link's", x.ease(1, 4), 4);
        due(8, "ease(2, 1): no such link", x.ease(2, 1), UNKNOWN);
        due(8, "ease(-1, 1): no such link", x.ease(-1, 1), UNKNOWN);
        due(8, "ease(2, 0): UNKNOWN is told first", x.ease(2, 0), UNKNOWN);
    }

    /** Promise 9: "RATE of a WELL: what it was. UNKNOWN; BAD: it is not 0 .. CAP." */
    private static void ratesUpToCap() {
        GroundWaters x = cells(1);
        x.well(0, 8, 1);
        x.well(0, 0, 1);
        for (int v : new int[] {-1, 9, 99, Lands.MIN, Lands.MAX}) due(9, "rate(0, " + v + ")", x.rate(0, v), BAD);
        due(9, "rate(0, 8): its cap", x.rate(0, 8), 0);
        due(9, "rate(0, 9): its cap and one", x.rate(0, 9), BAD);
        due(9, "rate(0, 0): none", x.rate(0, 0), 8);
        due(9, "rate(0, 3)", x.rate(0, 3), 0);
        due(9, "rate(1, 0): a cap of 0 leaves 0", x.rate(1, 0), 0);
        due(9, "rate(1, 1): a cap of 0", x.rate(1, 1), BAD);
        due(9, "rate(2, 0): no such well", x.rate(2, 0), UNKNOWN);
        due(9, "rate(-1, 0): no such well", x.rate(-1, 0), UNKNOWN);
        due(9, "rate(2, -1): UNKNOWN is told first", x.rate(2, -1), UNKNOWN);
        due(9, "count(8): what was refused is not counted", x.count(8), 3);
    }

    /** Promise 10: "STAGE of a RIVER (no less than its BED): what it was. UNKNOWN; BAD." */
    private static void stagesDownToBed() {
        GroundWaters x = cells(1);
        x.river(0, 50, 20, 1);
        x.river(0, 0, 0, 1);
        for (int v : new int[] {19, 0, -1, 1001, Lands.MIN, Lands.MAX}) due(10, "stage(0, " + v + ")", x.stage(0, v), BAD);
        due(10, "stage(0, 20): its bed", x.stage(0, 20), 50);
        due(10, "stage(0, 1000): the highest", x.stage(0, 1000), 20);
        due(10, "stage(0, 19): below its bed", x.stage(0, 19), BAD);
        due(10, "stage(0, 21): what it was, though one was refused", x.stage(0, 21), 1000);
        due(10, "stage(1, 0): the lowest of all", x.stage(1, 0), 0);
        due(10, "stage(1, -1)", x.stage(1, -1), BAD);
        due(10, "stage(2, 50): no such river", x.stage(2, 50), UNKNOWN);
        due(10, "stage(-1, 50): no such river", x.stage(-1, 50), UNKNOWN);
        due(10, "stage(2, 1001): UNKNOWN is told first", x.stage(2, 1001), UNKNOWN);
    }
}
