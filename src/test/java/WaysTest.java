/** Promises 20 to 25: ways, zones, spills. */
public final class WaysTest {
    private static final Check CHECK = new Check("WaysTest");
    private static final int UNKNOWN = -10000001, STATE = -10000003, NONE = -10000009;

    public static void main(String[] args) {
        chain();
        likeFlows();
        orderOfOutlets();
        stillWater();
        dryCell();
        zones();
        zonesWithBranches();
        secondDrainAndWell();
        smallestFlow();
        spillsLeftOver();
        refusals();
        CHECK.end();
    }

    private static void due(int promise, String call, long got, long want) {
        CHECK.due("promise " + promise, call, got, want);
    }

    /** 5 -> 4 -> .. -> 0, with a river at the end. */
    private static void chain() {
        GroundWaters x = new GroundWaters();
        for (int i = 0; i < 6; i++) x.cell(0, i == 5 ? 4 : 0, i + 1);
        for (int i = 0; i < 5; i++) x.link(i, i + 1, 2);
        x.river(0, 10, 0, 1);
        // heads 14, 16, 18, 20, 22, 24; 4 goes by each link
        for (int i = 0; i < 6; i++) due(20, "way(5, " + i + ")", x.way(5, i), 5 - i);
        due(20, "way(5, 6)", x.way(5, 6), NONE);
        due(20, "way(5, -1)", x.way(5, -1), NONE);
        due(20, "way(5, max)", x.way(5, Integer.MAX_VALUE), NONE);
        due(20, "way(2, 2)", x.way(2, 2), 0);
        due(20, "way(2, 3)", x.way(2, 3), NONE);
        due(21, "end(5)", x.end(5), 100);
        due(22, "time(5, true): 6 * 24 by 4", x.time(5, true), 36);
        due(22, "time(5, false)", x.time(5, false), 1);
        due(22, "time(0, true): 14 by 4", x.time(0, true), 7);
        due(22, "time(0, false)", x.time(0, false), 2);
        due(23, "wayTime(0)", x.wayTime(0), 3500);
        due(23, "wayTime(5)", x.wayTime(5), 3500 + 8000 + 13500 + 20000 + 27500 + 36000);
        due(25, "spill(5, 100)", x.spill(5, 100), 1000000);
        due(25, "spill(5, 0)", x.spill(5, 0), 0);
    }

    private static void likeFlows() {
        GroundWaters x = new GroundWaters();
        x.cell(0, 6, 1);
        x.cell(0, 0, 1);
        x.cell(0, 0, 1);
        x.link(2, 0, 1);
        x.link(0, 1, 1);
        x.river(2, 5, 0, 1);
        x.river(1, 5, 0, 1);
        // 3 goes to each side: link 0, to cell 2, is the first of like ones
        due(14, "flow(0)", x.flow(0), -3000);
        due(14, "flow(1)", x.flow(1), 3000);
        due(20, "way(0, 1): of like flows the first link", x.way(0, 1), 2);
        due(21, "end(0)", x.end(0), 100);
        due(25, "spill(0, 100)", x.spill(0, 100), 500000);
        due(25, "spill(0, 101)", x.spill(0, 101), 500000);
        x.ease(1, 2);
        due(20, "way(0, 1): the greater flow", x.way(0, 1), 1);
        due(21, "end(0)", x.end(0), 101);
    }

    /** Links, then rivers, then drains, then wells, each of a flow of 4. */
    private static void orderOfOutlets() {
        GroundWaters x = new GroundWaters();
        x.cell(0, 16, 1);
        x.cell(0, 0, 1);
        x.river(0, 10, 0, 2);
        x.drain(0, 10, 2);
        x.well(0, 4, 0);
        x.rate(0, 4);
        x.link(0, 1, 1);
        x.river(1, 4, 0, 1);
        due(13, "milli(0)", x.milli(0), 12000);
        due(13, "milli(1)", x.milli(1), 8000);
        due(20, "way(0, 1): the link is first of like ones", x.way(0, 1), 1);
        due(21, "end(0)", x.end(0), 101);
        for (int end : new int[] {100, 101, 200, 300}) due(25, "spill(0, " + end + ")", x.spill(0, end), 250000);
        GroundWaters y = new GroundWaters();
        y.cell(0, 12, 1);
        y.river(0, 10, 0, 2);
        y.drain(0, 10, 2);
        y.well(0, 4, 0);
        y.rate(0, 4);
        due(13, "milli(0)", y.milli(0), 12000);
        due(21, "end(0): river, drain and well are like", y.end(0), 100);
        due(25, "spill(0, 100): a third, and what is left over", y.spill(0, 100), 333334);
        due(25, "spill(0, 200)", y.spill(0, 200), 333333);
        due(25, "spill(0, 300)", y.spill(0, 300), 333333);
        due(22, "time(0, true): 12 by 12", y.time(0, true), 1);
        y.stage(0, 12);
        y.rain(0, 8);
        due(13, "milli(0)", y.milli(0), 12000);
        due(21, "end(0): a river at its stage takes nothing, the drain is first", y.end(0), 200);
        due(25, "spill(0, 100)", y.spill(0, 100), 0);
        due(25, "spill(0, 200)", y.spill(0, 200), 500000);
        y.rate(0, 3);
        y.rain(0, 7);
        due(25, "spill(0, 300)", y.spill(0, 300), 428571);
        due(25, "spill(0, 200): its share and what is left over", y.spill(0, 200), 571429);
        y.rate(0, 4);
        y.rain(0, 3);
        // 3 - 4 = 2 (h - 12) + 2 (h - 10): h = 43/4
        due(21, "end(0): the well takes most", y.end(0), 300);
        due(20, "way(0, 1)", y.way(0, 1), NONE);
    }

    private static void stillWater() {
        GroundWaters x = new GroundWaters();
        x.cell(0, 0, 1);
        x.cell(0, 0, 1);
        x.link(0, 1, 1);
        x.river(1, 9, 0, 1);
        due(20, "way(0, 0)", x.way(0, 0), 0);
        due(20, "way(0, 1) of still water", x.way(0, 1), NONE);
        due(21, "end(0) of still water", x.end(0), NONE);
        due(22, "time(0, true) of still water", x.time(0, true), NONE);
        due(22, "time(0, false) of still water", x.time(0, false), NONE);
        due(23, "wayTime(0) of still water", x.wayTime(0), 0);
        due(25, "spill(0, 0): it stays", x.spill(0, 0), 1000000);
        due(25, "spill(0, 1)", x.spill(0, 1), 0);
        due(25, "spill(0, 100)", x.spill(0, 100), 0);
        x.cell(0, 6, 1);
        x.link(2, 0, 1);
        x.drain(2, 0, 1);
        // from the river to cell 2 there are three eases of 1 in a row: (9 - h2) / 3 + 6 = h2, h2 = 27/4
        due(21, "end(2)", x.end(2), 200);
        due(20, "way(1, 2): the river feeds the drain now", x.way(1, 2), 2);
    }

    private static void dryCell() {
        GroundWaters x = new GroundWaters();
        x.cell(100, 5, 9);
        x.river(0, 10, 0, 3);
        due(17, "dry(0)", x.dry(0), 1);
        due(22, "time(0, true) of a dry cell", x.time(0, true), 0);
        due(22, "time(0, false) of a dry cell", x.time(0, false), 1);
        due(23, "wayTime(0) of a dry cell", x.wayTime(0), 0);
        due(21, "end(0) of a dry cell", x.end(0), 100);
    }

    private static void zones() {
        GroundWaters x = new GroundWaters();
        x.cell(0, 9, 1);
        x.cell(0, 0, 1);
        x.cell(0, 0, 1);
        x.cell(0, 0, 1);
        x.link(1, 0, 1);
        x.link(1, 2, 1);
        x.link(2, 3, 1);
        x.river(3, 10, 0, 1);
        x.well(2, 5, 1);
        x.well(3, 50, 1);
        due(24, "zone(0) with rate 0", x.zone(0), 0);
        x.rate(0, 5);
        due(24, "zone(0)", x.zone(0), 7);
        due(24, "zone(1) with rate 0", x.zone(1), 0);
        x.rate(1, 1);
        due(24, "zone(1): all", x.zone(1), 15);
        x.rain(0, 0);
        due(24, "zone(0): now the river feeds it, and cells 0, 1 stand still", x.zone(0), 12);
        due(24, "zone(1)", x.zone(1), 8);
    }

    private static void zonesWithBranches() {
        GroundWaters x = new GroundWaters();
        x.cell(0, 0, 1);
        x.cell(0, 8, 1);
        x.cell(0, 9, 1);
        x.cell(0, 0, 1);
        x.link(1, 0, 1);
        x.link(2, 1, 1);
        x.link(2, 3, 1);
        x.river(0, 10, 0, 1);
        x.river(3, 10, 0, 1);
        x.well(3, 1, 1);
        x.rate(0, 1);
        due(24, "zone(0): water of cells 0, 1 goes elsewhere", x.zone(0), 12);
        x.cell(0, 0, 1);
        x.link(3, 4, 1);
        due(24, "zone(0): a cell beside it stands still", x.zone(0), 12);
    }

    private static void secondDrainAndWell() {
        GroundWaters x = new GroundWaters();
        x.cell(0, 20, 1);
        x.drain(0, 50, 1);
        x.drain(0, 10, 2);
        x.well(0, 9, 0);
        x.well(0, 9, 0);
        x.rate(1, 8);
        // 12 go by drain 1, 8 by well 1
        due(21, "end(0)", x.end(0), 201);
        due(25, "spill(0, 201)", x.spill(0, 201), 600000);
        due(25, "spill(0, 301)", x.spill(0, 301), 400000);
        due(25, "spill(0, 200)", x.spill(0, 200), 0);
        due(25, "spill(0, 300)", x.spill(0, 300), 0);
        x.rain(0, 15);
        due(21, "end(0)", x.end(0), 301);
        due(24, "zone(1)", x.zone(1), 1);
    }

    private static void smallestFlow() {
        GroundWaters x = new GroundWaters();
        x.cell(0, 1, 1);
        x.river(0, 4, 0, 1);
        due(21, "end(0)", x.end(0), 100);
        due(22, "time(0, true): 5 by 1", x.time(0, true), 5);
        due(23, "wayTime(0)", x.wayTime(0), 5000);
        due(25, "spill(0, 100)", x.spill(0, 100), 1000000);
    }

    private static void spillsLeftOver() {
        GroundWaters x = new GroundWaters();
        x.cell(0, 7, 1);
        x.cell(0, 0, 1);
        x.cell(0, 0, 1);
        x.link(0, 1, 1);
        x.link(0, 2, 1);
        x.link(1, 2, 1);
        x.river(1, 0, 0, 1);
        x.river(2, 0, 0, 2);
        // h0 - h1 and h0 - h2 are 7 together; h1 + 2 h2 = 7
        Model m = new Model();
        m.cell(0, 7, 1);
        m.cell(0, 0, 1);
        m.cell(0, 0, 1);
        m.link(0, 1, 1);
        m.link(0, 2, 1);
        m.link(1, 2, 1);
        m.river(1, 0, 0, 1);
        m.river(2, 0, 0, 2);
        int all = 0;
        for (int end : new int[] {0, 1, 2, 100, 101}) {
            due(25, "spill(0, " + end + ")", x.spill(0, end), m.spill(0, end));
            all += x.spill(0, end);
        }
        due(25, "all parts of a spill", all, 1000000);
        due(25, "spill(1, 100) is not that of cell 0", x.spill(1, 100), m.spill(1, 100));
    }

    private static void refusals() {
        GroundWaters x = new GroundWaters();
        x.cell(0, 0, 1);
        x.well(0, 5, 5);
        x.drain(0, 0, 1);
        for (int no : new int[] {-1, 1, 6, Integer.MAX_VALUE, Integer.MIN_VALUE}) {
            due(20, "way(" + no + ", 0)", x.way(no, 0), UNKNOWN);
            due(21, "end(" + no + ")", x.end(no), UNKNOWN);
            due(22, "time(" + no + ", true)", x.time(no, true), UNKNOWN);
            due(23, "wayTime(" + no + ")", x.wayTime(no), UNKNOWN);
            due(24, "zone(" + no + ")", x.zone(no), UNKNOWN);
            due(25, "spill(" + no + ", 0)", x.spill(no, 0), UNKNOWN);
            due(25, "spill(0, " + no + ")", x.spill(0, no), UNKNOWN);
        }
        for (int end : new int[] {99, 100, 103, 199, 201, 299, 301}) {
            due(25, "spill(0, " + end + ")", x.spill(0, end), UNKNOWN);
        }
        due(20, "way(0, 0)", x.way(0, 0), STATE);
        due(20, "way(0, -1)", x.way(0, -1), STATE);
        due(21, "end(0)", x.end(0), STATE);
        due(22, "time(0, true)", x.time(0, true), STATE);
        due(22, "time(0, false)", x.time(0, false), STATE);
        due(23, "wayTime(0)", x.wayTime(0), STATE);
        due(24, "zone(0)", x.zone(0), STATE);
        due(25, "spill(0, 0)", x.spill(0, 0), STATE);
        due(25, "spill(0, 200)", x.spill(0, 200), STATE);
        due(25, "spill(0, 300)", x.spill(0, 300), STATE);
    }
}
