/** Promises 11 to 19: where the water comes to rest. */
public final class RestTest {
    private static final Check CHECK = new Check("RestTest");
    private static final int UNKNOWN = -10000001, STATE = -10000003, NONE = -10000009;

    public static void main(String[] args) {
        patterns();
        patternsOfTwo();
        heads();
        flows();
        landsThatGrow();
        drySaltThrough();
        refusals();
        greatNumbers();
        CHECK.end();
    }

    private static void due(int promise, String call, long got, long want) {
        CHECK.due("promise " + promise, call, got, want);
    }

    private static void patterns() {
        GroundWaters x = new GroundWaters();
        x.cell(0, 10, 1);
        due(11, "pattern() of a cell that nothing holds", x.pattern(), NONE);
        x.drain(0, 20, 5);
        due(11, "pattern() of a drain that runs", x.pattern(), 8);
        due(13, "milli(0)", x.milli(0), 22000);
        x.rain(0, 0);
        due(11, "pattern() of a drain at its level: it does not run, so heads are many", x.pattern(), NONE);
        x.river(0, 30, 20, 1);
        // 1 (30 - h) = 5 (h - 20): h = 130 / 6
        due(11, "pattern() of river and drain", x.pattern(), 9);
        due(12, "head(0, true)", x.head(0, true), 65);
        due(12, "head(0, false)", x.head(0, false), 3);
        x.well(0, 99, 0);
        x.rate(0, 10);
        // at h = 20 the river gives 10, tied at its very bed, the drain nothing
        due(11, "pattern() at the bed", x.pattern(), 1);
        due(13, "milli(0) at the bed", x.milli(0), 20000);
        x.rate(0, 11);
        due(11, "pattern() below the bed", x.pattern(), NONE);
    }

    private static void patternsOfTwo() {
        GroundWaters x = new GroundWaters();
        x.cell(0, 0, 1);
        x.cell(0, 0, 1);
        x.link(0, 1, 1);
        x.river(0, 500, 400, 1);
        x.river(1, 10, 0, 4);
        x.drain(1, 900, 1);
        x.drain(1, 5, 1);
        // river 0 hangs and gives 100; 4 (10 - h1) + 100 = h1 - 5: h1 = 29, h0 = 129
        due(11, "pattern() with a river that hangs, a drain that rests and one that runs", x.pattern(), 2 + 16);
        due(12, "head(0, true)", x.head(0, true), 129);
        due(12, "head(1, true)", x.head(1, true), 29);
        due(15, "gives(0)", x.gives(0), 100000);
        due(15, "gives(1)", x.gives(1), -76000);
        due(16, "takes(0)", x.takes(0), 0);
        due(16, "takes(1)", x.takes(1), 24000);
        x.cell(0, 0, 1);
        due(11, "pattern() with a cell apart that nothing holds", x.pattern(), NONE);
        due(13, "milli(0)", x.milli(0), STATE);
        x.river(2, 7, 7, 1);
        due(11, "pattern() with a river at its bed there", x.pattern(), 2 + 4 + 16);
        due(13, "milli(2)", x.milli(2), 7000);
    }

    private static void heads() {
        GroundWaters x = new GroundWaters();
        x.cell(0, 0, 1);
        x.river(0, 1, 0, 6);
        x.well(0, 99, 0);
        x.cell(0, 0, 1);
        x.link(1, 0, 4);
        x.well(1, 99, 0);
        due(12, "head(0, true)", x.head(0, true), 1);
        due(12, "head(0, false)", x.head(0, false), 1);
        x.rate(1, 2);
        // h0 = 1 - 2/6 = 2/3; h1 = 2/3 - 2/4 = 1/6
        due(12, "head(0, true) in least terms", x.head(0, true), 2);
        due(12, "head(0, false)", x.head(0, false), 3);
        due(12, "head(1, true)", x.head(1, true), 1);
        due(12, "head(1, false)", x.head(1, false), 6);
        due(13, "milli(0)", x.milli(0), 666);
        due(13, "milli(1)", x.milli(1), 166);
        x.rate(1, 6);
        // h0 = 0; h1 = -3/2
        due(12, "head(0, true) of 0", x.head(0, true), 0);
        due(12, "head(0, false) of 0", x.head(0, false), 1);
        due(12, "head(1, true) below 0", x.head(1, true), -3);
        due(12, "head(1, false) below 0", x.head(1, false), 2);
        due(13, "milli(1) below 0", x.milli(1), -1500);
        due(18, "salt(1) above 0", x.salt(1), 60000);
        due(18, "salt(0) at 0", x.salt(0), 0);
        x.ease(0, 7);
        due(13, "milli(1) of -6/7: not above it", x.milli(1), -858);
        due(18, "salt(1) of 240/7", x.salt(1), 34285);
    }

    private static void flows() {
        GroundWaters x = new GroundWaters();
        x.cell(0, 1, 1);
        x.cell(0, 0, 1);
        x.link(0, 1, 3);
        x.link(1, 0, 4);
        x.river(1, 2, 0, 7);
        // 1 goes by two links of 7 together: 3/7 and 4/7; the river takes 1
        due(14, "flow(0)", x.flow(0), 428);
        due(14, "flow(1): back", x.flow(1), -572);
        due(15, "gives(0): takes", x.gives(0), -1000);
        x.drain(1, 2, 2);
        // 7 (2 - h) + 1 = 2 (h - 2): h - 2 = 1/9
        due(15, "gives(0): takes 7/9", x.gives(0), -778);
        due(16, "takes(0): 2/9", x.takes(0), 222);
        x.rain(0, 0);
        due(14, "flow(0) of nothing", x.flow(0), 0);
        due(15, "gives(0) of nothing", x.gives(0), 0);
        due(16, "takes(0) at its level", x.takes(0), 0);
        due(11, "pattern() at its level", x.pattern(), 1);
    }

    /** Each thing that comes counts at once, though the rest was asked for before. */
    private static void landsThatGrow() {
        GroundWaters x = new GroundWaters();
        x.cell(0, 6, 1);
        x.river(0, 10, 0, 1);
        due(13, "milli(0)", x.milli(0), 16000);
        x.cell(0, 0, 1);
        due(13, "milli(0) beside a cell that nothing holds", x.milli(0), STATE);
        x.link(0, 1, 1);
        due(13, "milli(1) with a link", x.milli(1), 16000);
        x.river(1, 10, 0, 1);
        due(13, "milli(0) with a river", x.milli(0), 14000);
        due(13, "milli(1) with a river", x.milli(1), 12000);
        x.link(1, 0, 1);
        due(13, "milli(0) with a second link", x.milli(0), 13600);
        x.drain(1, 10, 3);
        // (16 - h0) = 2 (h0 - h1), 2 (h0 - h1) = 4 (h1 - 10)
        due(12, "head(0, true) with a drain", x.head(0, true), 88);
        due(12, "head(0, false) with a drain", x.head(0, false), 7);
        x.ease(1, 3);
        due(13, "milli(0) with another ease", x.milli(0), 12000);
    }

    private static void drySaltThrough() {
        GroundWaters x = new GroundWaters();
        x.cell(10, 3, 1);
        x.cell(30, 2, 1);
        x.link(0, 1, 1);
        x.river(0, 12, 0, 2);
        x.river(1, 5, 0, 1);
        x.well(0, 99, 0);
        // 3 + 2 (12 - a) = a - b and 2 + (5 - b) + (a - b) = 0: a = 61/5, b = 48/5
        due(12, "head(0, true)", x.head(0, true), 61);
        due(12, "head(1, true)", x.head(1, true), 48);
        due(17, "dry(0)", x.dry(0), 0);
        due(17, "dry(1)", x.dry(1), 1);
        due(18, "salt(0)", x.salt(0), -488000);
        due(18, "salt(1)", x.salt(1), -384000);
        due(19, "through(true): rain alone, both rivers take", x.through(true), 5);
        due(19, "through(false)", x.through(false), 1);
        x.rate(0, 7);
        // a = (61 - 14) / 5 = 47/5, b = 48/5 - 7/5 = 41/5: river 0 gives 26/5
        due(17, "dry(0)", x.dry(0), 1);
        due(19, "through(true) with a river that gives", x.through(true), 51);
        due(19, "through(false)", x.through(false), 5);
        x.stage(0, 10);
        x.rain(0, 0);
        x.rain(1, 0);
        x.rate(0, 0);
        x.stage(1, 10);
        due(17, "dry(0) at its bottom", x.dry(0), 0);
        due(19, "through(true) of nothing", x.through(true), 0);
        due(19, "through(false) of nothing", x.through(false), 1);
        due(18, "salt(0)", x.salt(0), -400000);
    }

    private static void refusals() {
        GroundWaters x = new GroundWaters();
        x.cell(0, 0, 1);
        x.cell(0, 0, 1);
        x.link(0, 1, 1);
        for (int no : new int[] {-1, 2, 6, Integer.MAX_VALUE, Integer.MIN_VALUE}) {
            due(12, "head(" + no + ", true)", x.head(no, true), UNKNOWN);
            due(13, "milli(" + no + ")", x.milli(no), UNKNOWN);
            due(14, "flow(" + no + ")", x.flow(no), UNKNOWN);
            due(17, "dry(" + no + ")", x.dry(no), UNKNOWN);
            due(18, "salt(" + no + ")", x.salt(no), UNKNOWN);
        }
        due(15, "gives(0) without rivers", x.gives(0), UNKNOWN);
        due(16, "takes(0) without drains", x.takes(0), UNKNOWN);
        due(12, "head(0, false)", x.head(0, false), STATE);
        due(13, "milli(0)", x.milli(0), STATE);
        due(14, "flow(0)", x.flow(0), STATE);
        due(17, "dry(0)", x.dry(0), STATE);
        due(18, "salt(0)", x.salt(0), STATE);
        due(19, "through(true)", x.through(true), STATE);
        due(19, "through(false)", x.through(false), STATE);
        x.drain(0, 5, 1);
        due(16, "takes(0)", x.takes(0), STATE);
        x.river(0, 5, 5, 1);
        x.well(0, 1, 1);
        x.rate(0, 1);
        due(15, "gives(0)", x.gives(0), STATE);
        due(15, "gives(1)", x.gives(1), UNKNOWN);
        due(16, "takes(1)", x.takes(1), UNKNOWN);
    }

    /** Eases as great as they may be: the numbers inside must not run over. */
    private static void greatNumbers() {
        GroundWaters x = new GroundWaters();
        for (int i = 0; i < 6; i++) x.cell(500, 99, 9);
        for (int i = 0; i < 12; i++) x.link(i % 6, (i + 1 + i / 6) % 6, 9);
        x.river(0, 1000, 0, 9);
        x.river(2, 999, 0, 9);
        x.river(4, 998, 0, 9);
        x.drain(1, 997, 9);
        x.drain(3, 996, 9);
        long in = 0, drained = x.takes(0) + x.takes(1);
        for (int r = 0; r < 3; r++) in += x.gives(r);
        due(19, "what comes leaves, but for what each milli cuts", Math.abs(in + 594000 - drained) <= 5 ? 1 : 0, 1);
        Model m = new Model();
        for (int i = 0; i < 6; i++) m.cell(500, 99, 9);
        for (int i = 0; i < 12; i++) m.link(i % 6, (i + 1 + i / 6) % 6, 9);
        m.river(0, 1000, 0, 9);
        m.river(2, 999, 0, 9);
        m.river(4, 998, 0, 9);
        m.drain(1, 997, 9);
        m.drain(3, 996, 9);
        for (int c = 0; c < 6; c++) {
            due(12, "head(" + c + ", true) of great numbers", x.head(c, true), m.head(c, true));
            due(12, "head(" + c + ", false) of great numbers", x.head(c, false), m.head(c, false));
            for (int e = 0; e < 6; e++) due(25, "spill(" + c + ", " + e + ")", x.spill(c, e), m.spill(c, e));
        }
    }
}
