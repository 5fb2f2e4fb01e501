/** Promises 26 to 30: the land by ticks in whole cups. */
public final class TicksTest {
    private static final Check CHECK = new Check("TicksTest");
    private static final int UNKNOWN = -10000001, BAD = -10000002;

    public static void main(String[] args) {
        poursAndMarks();
        rainAndRunOff();
        rivers();
        links();
        marksAheadOfTheTick();
        drainsAndWells();
        runOffByLinksAndRivers();
        booksBeginAnew();
        refusals();
        CHECK.end();
    }

    private static void due(int promise, String call, long got, long want) {
        CHECK.due("promise " + promise, call, got, want);
    }

    private static void poursAndMarks() {
        GroundWaters x = new GroundWaters();
        x.cell(20, 0, 3);
        due(27, "cups(0) at first", x.cups(0), 0);
        due(28, "mark(0) at first", x.mark(0), 20);
        due(26, "pour(0, 11)", x.pour(0, 11), 0);
        due(27, "cups(0)", x.cups(0), 11);
        due(28, "mark(0): 11 by 3, cut, and 20", x.mark(0), 23);
        due(26, "pour(0, 1000000)", x.pour(0, 1000000), 11);
        due(28, "mark(0)", x.mark(0), 333353);
        due(26, "pour(0, 0)", x.pour(0, 0), 1000000);
        due(27, "cups(0)", x.cups(0), 0);
        x.pour(0, 5);
        due(29, "tick(100): nothing moves", x.tick(100), 5);
    }

    private static void rainAndRunOff() {
        GroundWaters x = new GroundWaters();
        x.cell(0, 7, 1);
        x.cell(0, 2, 1);
        x.pour(0, 999990);
        due(29, "tick(1)", x.tick(1), 999997 + 2);
        due(29, "tick(1)", x.tick(1), 1000000 + 4);
        due(30, "book(0): rain that came, though it ran off", x.book(0), 18);
        due(30, "book(5)", x.book(5), 4);
        due(29, "tick(3)", x.tick(3), 1000000 + 10);
        due(30, "book(5)", x.book(5), 25);
        due(27, "cups(0)", x.cups(0), 1000000);
    }

    private static void rivers() {
        GroundWaters x = new GroundWaters();
        x.cell(10, 0, 1);
        x.river(0, 99, 30, 5);
        // mark 10 is below the bed: 5 * 69 / 100 = 3
        due(29, "tick(1) below the bed", x.tick(1), 3);
        due(30, "book(1)", x.book(1), 3);
        x.pour(0, 50);
        // mark 60: 5 * 39 / 100 = 1
        due(29, "tick(1) above the bed", x.tick(1), 51);
        x.pour(0, 89);
        due(29, "tick(1) at the stage", x.tick(1), 89);
        x.pour(0, 100);
        // mark 110: 5 * -11 / 100 = 0, cut towards 0
        due(29, "tick(1) a little above the stage", x.tick(1), 100);
        due(30, "book(2)", x.book(2), 0);
        x.pour(0, 110);
        // mark 120: 5 * -21 / 100 = -1
        due(29, "tick(1) above the stage", x.tick(1), 109);
        due(30, "book(1)", x.book(1), 0);
        due(30, "book(2)", x.book(2), 1);
        GroundWaters y = new GroundWaters();
        y.cell(500, 0, 9);
        y.river(0, 0, 0, 9);
        y.pour(0, 30);
        // mark 503: 45 would leave, 30 are there
        due(29, "tick(1): as far as there is so much", y.tick(1), 0);
        due(30, "book(2)", y.book(2), 30);
        y.tick(5);
        due(30, "book(2) of an empty cell", y.book(2), 30);
    }

    private static void links() {
        GroundWaters x = new GroundWaters();
        x.cell(0, 0, 1);
        x.cell(0, 0, 1);
        x.link(0, 1, 3);
        x.pour(0, 1000);
        x.tick(1);
        due(27, "cups(1): 3 * 1000 / 100", x.cups(1), 30);
        x.pour(0, 0);
        x.pour(1, 1099);
        x.tick(1);
        due(27, "cups(0): back, 3 * 1099 / 100, cut", x.cups(0), 32);
        due(27, "cups(1)", x.cups(1), 1067);
        x.pour(0, 40);
        x.pour(1, 73);
        x.tick(1);
        due(27, "cups(0): -99 / 100 is cut towards 0", x.cups(0), 40);
        GroundWaters y = new GroundWaters();
        y.cell(500, 0, 9);
        y.cell(0, 0, 9);
        y.cell(0, 0, 9);
        y.link(1, 0, 9);
        y.link(0, 2, 9);
        y.pour(0, 60);
        // mark 506: 45 by each link, the second one finds 15
        due(29, "tick(1): as far as there is so much", y.tick(1), 60);
        due(27, "cups(1)", y.cups(1), 45);
        due(27, "cups(2)", y.cups(2), 15);
    }

    private static void marksAheadOfTheTick() {
        GroundWaters x = new GroundWaters();
        x.cell(0, 90, 1);
        x.cell(0, 0, 1);
        x.cell(0, 0, 1);
        x.link(0, 1, 9);
        x.link(1, 2, 9);
        x.drain(0, 10, 9);
        x.river(2, 100, 0, 1);
        x.tick(1);
        due(27, "cups(0): its rain does not move as yet", x.cups(0), 90);
        due(27, "cups(2): from the river", x.cups(2), 1);
        x.tick(1);
        // 9 * 90 / 100 = 8 by link 0, 9 * 80 / 100 = 7 by the drain
        due(27, "cups(0)", x.cups(0), 90 + 90 - 8 - 7);
        due(27, "cups(1)", x.cups(1), 8);
        due(27, "cups(2): 99 / 100 is 0", x.cups(2), 1);
        due(30, "book(3)", x.book(3), 7);
    }

    private static void drainsAndWells() {
        GroundWaters x = new GroundWaters();
        x.cell(0, 0, 1);
        x.drain(0, 100, 9);
        x.drain(0, 300, 1);
        x.well(0, 20, 1);
        x.well(0, 30, 1);
        x.rate(0, 20);
        x.rate(1, 30);
        x.pour(0, 400);
        // 27, 1, 20, 30
        due(29, "tick(1)", x.tick(1), 322);
        due(30, "book(3)", x.book(3), 28);
        due(30, "book(4)", x.book(4), 50);
        x.pour(0, 90);
        due(29, "tick(1): a drain above the mark takes nothing", x.tick(1), 40);
        due(30, "book(3)", x.book(3), 0);
        due(29, "tick(1): the second well finds 20", x.tick(1), 0);
        due(30, "book(4)", x.book(4), 90);
        due(29, "tick(2)", x.tick(2), 0);
        due(30, "book(4) of an empty cell", x.book(4), 90);
        GroundWaters y = new GroundWaters();
        y.cell(500, 0, 9);
        y.drain(0, 0, 9);
        y.pour(0, 10);
        due(29, "tick(1): the drain finds 10", y.tick(1), 0);
        due(30, "book(3)", y.book(3), 10);
    }

    private static void runOffByLinksAndRivers() {
        GroundWaters x = new GroundWaters();
        x.cell(0, 0, 9);
        x.cell(500, 0, 9);
        x.link(1, 0, 9);
        x.pour(0, 1000000);
        x.pour(1, 1000000);
        // marks 111111 and 111611: 45 come to cell 0, and run off
        due(29, "tick(1)", x.tick(1), 1999955);
        due(30, "book(5)", x.book(5), 45);
        due(27, "cups(0)", x.cups(0), 1000000);
        GroundWaters y = new GroundWaters();
        y.cell(0, 0, 9);
        y.river(0, 1000, 1000, 9);
        y.river(0, 1000, 0, 9);
        y.well(0, 50, 0);
        y.rate(0, 50);
        y.pour(0, 0);
        due(29, "tick(1): a river at its bed gives nothing, the other one 90", y.tick(1), 40);
        due(30, "book(1)", y.book(1), 90);
        due(30, "book(4)", y.book(4), 50);
    }

    private static void booksBeginAnew() {
        GroundWaters x = new GroundWaters();
        x.cell(0, 5, 1);
        x.cell(0, 5, 1);
        x.tick(10);
        due(30, "book(0) before a pour", x.book(0), 100);
        due(26, "pour(1, 1000001)", x.pour(1, 1000001), BAD);
        due(30, "book(0) after a pour that was refused", x.book(0), 100);
        due(26, "pour(1, 50)", x.pour(1, 50), 50);
        for (int b = 0; b < 6; b++) due(30, "book(" + b + ") anew", x.book(b), 0);
        due(27, "cups(0) stay", x.cups(0), 50);
        x.tick(1);
        due(30, "book(0)", x.book(0), 10);
        x.tick(1);
        due(30, "book(0) goes on", x.book(0), 20);
    }

    private static void refusals() {
        GroundWaters x = new GroundWaters();
        x.cell(0, 1, 1);
        for (int no : new int[] {-1, 1, 6, Integer.MAX_VALUE, Integer.MIN_VALUE}) {
            due(26, "pour(" + no + ", -1)", x.pour(no, -1), UNKNOWN);
            due(27, "cups(" + no + ")", x.cups(no), UNKNOWN);
            due(28, "mark(" + no + ")", x.mark(no), UNKNOWN);
        }
        due(26, "pour(0, -1)", x.pour(0, -1), BAD);
        due(26, "pour(0, 1000001)", x.pour(0, 1000001), BAD);
        due(29, "tick(0)", x.tick(0), BAD);
        due(29, "tick(101)", x.tick(101), BAD);
        due(29, "tick(-1)", x.tick(-1), BAD);
        due(27, "cups(0): nothing has changed", x.cups(0), 0);
        due(29, "tick(100)", x.tick(100), 100);
        due(30, "book(-1)", x.book(-1), BAD);
        due(30, "book(6)", x.book(6), BAD);
        due(30, "book(max)", x.book(Integer.MAX_VALUE), BAD);
    }
}
