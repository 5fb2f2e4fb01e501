/** Promises 1 to 10 and 48: the land, and what is counted. */
public final class LandTest {
    private static final Check CHECK = new Check("LandTest");
    private static final int UNKNOWN = -10000001, BAD = -10000002, STATE = -10000003, FULL = -10000004, NONE = -10000009;

    public static void main(String[] args) {
        aNewObject();
        cells();
        links();
        rivers();
        drains();
        wells();
        changes();
        counts();
        CHECK.end();
    }

    private static void due(int promise, String call, long got, long want) {
        CHECK.due("promise " + promise, call, got, want);
    }

    private static void aNewObject() {
        GroundWaters x = new GroundWaters();
        for (int what = 0; what <= 8; what++) due(1, "count(" + what + ")", x.count(what), 0);
        due(1, "pattern()", x.pattern(), NONE);
        due(1, "milli(0)", x.milli(0), UNKNOWN);
        due(1, "through(true)", x.through(true), STATE);
        due(1, "tick(1)", x.tick(1), 0);
        due(1, "book(0)", x.book(0), 0);
        due(1, "left()", x.left(), 0);
        due(1, "next()", x.next(), NONE);
        due(1, "fault()", x.fault(), NONE);
        due(1, "holds()", x.holds(), STATE);
        due(1, "worth()", x.worth(), NONE);
        due(1, "draw()", x.draw(), NONE);
        GroundWaters y = new GroundWaters();
        x.cell(0, 0, 1);
        due(1, "count(0) of another object", y.count(0), 0);
    }

    private static void cells() {
        GroundWaters x = new GroundWaters();
        due(2, "cell(-1, 0, 1)", x.cell(-1, 0, 1), BAD);
        due(2, "cell(501, 0, 1)", x.cell(501, 0, 1), BAD);
        due(2, "cell(0, -1, 1)", x.cell(0, -1, 1), BAD);
        due(2, "cell(0, 100, 1)", x.cell(0, 100, 1), BAD);
        due(2, "cell(0, 0, 0)", x.cell(0, 0, 0), BAD);
        due(2, "cell(0, 0, 10)", x.cell(0, 0, 10), BAD);
        due(2, "count(0): what is refused changes nothing", x.count(0), 0);
        due(2, "cell(0, 0, 1)", x.cell(0, 0, 1), 0);
        due(2, "cell(500, 99, 9)", x.cell(500, 99, 9), 1);
        for (int i = 2; i < 6; i++) due(2, "cell " + i, x.cell(i, i, i), i);
        due(2, "a seventh cell that is bad", x.cell(501, 0, 1), BAD);
        due(2, "a seventh cell", x.cell(0, 0, 1), FULL);
        due(2, "count(0)", x.count(0), 6);
        due(2, "mark(1): its bottom", x.mark(1), 500);
        due(2, "rain(1, 0): its rain", x.rain(1, 0), 99);
        x.pour(1, 20);
        due(2, "mark(1): its store", x.mark(1), 502);
    }

    private static void links() {
        GroundWaters x = new GroundWaters();
        due(3, "link(0, 1, 1) without cells", x.link(0, 1, 1), UNKNOWN);
        x.cell(0, 0, 1);
        x.cell(0, 0, 1);
        due(3, "link(0, 2, 0)", x.link(0, 2, 0), UNKNOWN);
        due(3, "link(-1, 0, 1)", x.link(-1, 0, 1), UNKNOWN);
        due(3, "link(2, 2, 1)", x.link(2, 2, 1), UNKNOWN);
        due(3, "link(0, 0, 10)", x.link(0, 0, 10), BAD);
        due(3, "link(0, 1, 0)", x.link(0, 1, 0), BAD);
        due(3, "link(0, 1, 10)", x.link(0, 1, 10), BAD);
        due(3, "link(1, 1, 9)", x.link(1, 1, 9), STATE);
        for (int i = 0; i < 12; i++) due(3, "link " + i, x.link(i % 2, 1 - i % 2, 1 + i % 9), i);
        due(3, "a thirteenth link", x.link(0, 1, 1), FULL);
        due(3, "a thirteenth link of one cell", x.link(1, 1, 1), STATE);
        due(3, "count(1)", x.count(1), 12);
    }

    private static void rivers() {
        GroundWaters x = new GroundWaters();
        due(4, "river(0, 10, 5, 1) without cells", x.river(0, 10, 5, 1), UNKNOWN);
        x.cell(0, 0, 1);
        due(4, "river(1, -1, 5, 1)", x.river(1, -1, 5, 1), UNKNOWN);
        due(4, "river(0, -1, 0, 1)", x.river(0, -1, 0, 1), BAD);
        due(4, "river(0, 1001, 0, 1)", x.river(0, 1001, 0, 1), BAD);
        due(4, "river(0, 10, 11, 1)", x.river(0, 10, 11, 1), BAD);
        due(4, "river(0, 10, -1, 1)", x.river(0, 10, -1, 1), BAD);
        due(4, "river(0, 10, 5, 0)", x.river(0, 10, 5, 0), BAD);
        due(4, "river(0, 10, 5, 10)", x.river(0, 10, 5, 10), BAD);
        due(4, "river(0, 0, 0, 1)", x.river(0, 0, 0, 1), 0);
        due(4, "river(0, 1000, 1000, 9)", x.river(0, 1000, 1000, 9), 1);
        due(4, "river(0, 10, 5, 1)", x.river(0, 10, 5, 1), 2);
        due(4, "a fourth river that is bad", x.river(0, 10, 11, 1), BAD);
        due(4, "a fourth river", x.river(0, 10, 5, 1), FULL);
        due(4, "count(2)", x.count(2), 3);
    }

    private static void drains() {
        GroundWaters x = new GroundWaters();
        due(5, "drain(0, 10, 1) without cells", x.drain(0, 10, 1), UNKNOWN);
        x.cell(0, 0, 1);
        due(5, "drain(-1, 10, 0)", x.drain(-1, 10, 0), UNKNOWN);
        due(5, "drain(0, -1, 1)", x.drain(0, -1, 1), BAD);
        due(5, "drain(0, 1001, 1)", x.drain(0, 1001, 1), BAD);
        due(5, "drain(0, 10, 0)", x.drain(0, 10, 0), BAD);
        due(5, "drain(0, 10, 10)", x.drain(0, 10, 10), BAD);
        due(5, "drain(0, 0, 1)", x.drain(0, 0, 1), 0);
        due(5, "drain(0, 1000, 9)", x.drain(0, 1000, 9), 1);
        due(5, "a third drain that is bad", x.drain(0, -1, 1), BAD);
        due(5, "a third drain", x.drain(0, 10, 1), FULL);
        due(5, "count(3)", x.count(3), 2);
    }

    private static void wells() {
        GroundWaters x = new GroundWaters();
        due(6, "well(0, 1, 1) without cells", x.well(0, 1, 1), UNKNOWN);
        x.cell(0, 0, 1);
        due(6, "well(1, -1, 1)", x.well(1, -1, 1), UNKNOWN);
        due(6, "well(0, -1, 1)", x.well(0, -1, 1), BAD);
        due(6, "well(0, 100, 1)", x.well(0, 100, 1), BAD);
        due(6, "well(0, 1, -1)", x.well(0, 1, -1), BAD);
        due(6, "well(0, 1, 100)", x.well(0, 1, 100), BAD);
        due(6, "well(0, 0, 0)", x.well(0, 0, 0), 0);
        due(6, "well(0, 99, 99)", x.well(0, 99, 99), 1);
        due(6, "well(0, 5, 5)", x.well(0, 5, 5), 2);
        due(6, "a fourth well that is bad", x.well(0, 100, 1), BAD);
        due(6, "a fourth well", x.well(0, 5, 5), FULL);
        due(6, "count(4)", x.count(4), 3);
        due(6, "count(8): rates are 0 at first", x.count(8), 0);
    }

    private static void changes() {
        GroundWaters x = new GroundWaters();
        x.cell(0, 7, 1);
        x.cell(0, 0, 1);
        x.link(0, 1, 4);
        x.river(1, 50, 20, 2);
        x.well(0, 9, 1);
        due(7, "rain(2, 100)", x.rain(2, 100), UNKNOWN);
        due(7, "rain(-1, 5)", x.rain(-1, 5), UNKNOWN);
        due(7, "rain(0, 100)", x.rain(0, 100), BAD);
        due(7, "rain(0, -1)", x.rain(0, -1), BAD);
        due(7, "rain(0, 99)", x.rain(0, 99), 7);
        due(7, "rain(0, 0)", x.rain(0, 0), 99);
        due(7, "rain(0, 8)", x.rain(0, 8), 0);
        due(7, "milli(1) with that rain", x.milli(1), 54000);
        due(8, "ease(1, 0)", x.ease(1, 0), UNKNOWN);
        due(8, "ease(-1, 1)", x.ease(-1, 1), UNKNOWN);
        due(8, "ease(0, 0)", x.ease(0, 0), BAD);
        due(8, "ease(0, 10)", x.ease(0, 10), BAD);
        due(8, "milli(0) with ease 4", x.milli(0), 56000);
        due(8, "ease(0, 9)", x.ease(0, 9), 4);
        due(8, "ease(0, 1)", x.ease(0, 1), 9);
        due(8, "milli(0) with ease 1", x.milli(0), 62000);
        due(9, "rate(1, 0)", x.rate(1, 0), UNKNOWN);
        due(9, "rate(-1, 0)", x.rate(-1, 0), UNKNOWN);
        due(9, "rate(0, 10)", x.rate(0, 10), BAD);
        due(9, "rate(0, -1)", x.rate(0, -1), BAD);
        due(9, "rate(0, 9)", x.rate(0, 9), 0);
        due(9, "count(8)", x.count(8), 9);
        due(9, "rate(0, 4)", x.rate(0, 4), 9);
        due(9, "milli(0) with rate 4", x.milli(0), 56000);
        due(10, "stage(1, 5)", x.stage(1, 5), UNKNOWN);
        due(10, "stage(-1, 50)", x.stage(-1, 50), UNKNOWN);
        due(10, "stage(0, 19)", x.stage(0, 19), BAD);
        due(10, "stage(0, 1001)", x.stage(0, 1001), BAD);
        due(10, "stage(0, 1000)", x.stage(0, 1000), 50);
        due(10, "stage(0, 20)", x.stage(0, 20), 1000);
        due(10, "milli(1) with that stage", x.milli(1), 22000);
    }

    private static void counts() {
        GroundWaters x = new GroundWaters();
        x.cell(0, 0, 1);
        x.cell(0, 0, 1);
        x.cell(0, 0, 1);
        for (int i = 0; i < 4; i++) x.link(0, 1, 1);
        x.river(0, 1, 0, 1);
        x.drain(0, 0, 1);
        x.drain(0, 0, 1);
        x.well(0, 50, 0);
        x.well(0, 60, 0);
        x.rate(0, 41);
        x.rate(1, 2);
        for (int i = 0; i < 5; i++) x.world(i % 4, 2);
        for (int i = 0; i < 6; i++) x.sign(40);
        x.see(2, 0, 0);
        x.see(1, 0, 0);
        x.see(1, 0, -5);
        long[] want = {3, 4, 1, 2, 2, 5, 6, 1, 43};
        for (int what = 0; what <= 8; what++) due(48, "count(" + what + ")", x.count(what), want[what]);
        due(48, "count(-1)", x.count(-1), BAD);
        due(48, "count(9)", x.count(9), BAD);
        due(48, "count(max)", x.count(Integer.MAX_VALUE), BAD);
    }
}
