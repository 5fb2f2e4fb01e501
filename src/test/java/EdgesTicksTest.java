/** Promises 26 to 30, sentence by sentence: each boundary case that the document names has a test of its own here. */
public final class EdgesTicksTest {
    private static final Check CHECK = new Check("EdgesTicksTest");
    private static final int UNKNOWN = Lands.UNKNOWN, BAD = Lands.BAD;
    private static final int MIN = Lands.MIN, MAX = Lands.MAX, MOST = 1000000;

    public static void main(String[] args) {
        poursFromNothingToMost();
        aPourPutsInstead();
        booksBeginAnew();
        booksOfARefusedPour();
        cupsAtFirst();
        marksAreCut();
        marksAtTheirMost();
        oneToAHundredTicks();
        allCups();
        rainComesFirst();
        marksAheadOfTheTick();
        riverBelowItsBed();
        riverAtItsStage();
        riverCutTowardsNothing();
        riverTakesWhatIsThere();
        riversByNumber();
        linkCutTowardsNothing();
        linkGivesWhatIsThere();
        linksByNumber();
        drainAtItsLevel();
        drainsByNumber();
        wellsByNumber();
        orderOfKinds();
        wellOfRateNothing();
        fullToTheBrim();
        rainRunsOffAtOnce();
        linksRunOffAtOnce();
        booksCountWhatMoved();
        booksThatAreNotThere();
        CHECK.covers(26, 30);
        CHECK.end();
    }

    private static void due(int promise, String call, long got, long want) {
        CHECK.due(promise, call, got, want);
    }

    private static GroundWaters oneCell(int bottom, int rain, int store) {
        GroundWaters x = new GroundWaters();
        x.cell(bottom, rain, store);
        return x;
    }

    /** Terms 3: "CUPS (0 .. 1000000". */
    private static void poursFromNothingToMost() {
        GroundWaters x = oneCell(0, 0, 1);
        for (int v : new int[] {-1, MOST + 1, MIN, MAX}) due(26, "pour(0, " + v + ")", x.pour(0, v), BAD);
        due(26, "pour(0, 0): the least", x.pour(0, 0), 0);
        due(26, "pour(0, 1000000): the most", x.pour(0, MOST), 0);
        due(26, "pour(0, 1000001)", x.pour(0, MOST + 1), BAD);
        due(26, "pour(0, 0): how many were, though one was refused", x.pour(0, 0), MOST);
        due(26, "pour(1, 0): no such cell", x.pour(1, 0), UNKNOWN);
        due(26, "pour(-1, 0): no such cell", x.pour(-1, 0), UNKNOWN);
        due(26, "pour(1, -1): UNKNOWN is told first", x.pour(1, -1), UNKNOWN);
    }

    /** Promise 26: "(so many are in it then)", not so many more. */
    private static void aPourPutsInstead() {
        GroundWaters x = oneCell(0, 0, 1);
        x.cell(0, 0, 1);
        due(26, "pour(0, 30)", x.pour(0, 30), 0);
        due(26, "pour(0, 12): how many were", x.pour(0, 12), 30);
        due(27, "cups(0)", x.cups(0), 12);
        due(27, "cups(1): the other cell's", x.cups(1), 0);
        due(26, "pour(0, 12): as many as were", x.pour(0, 12), 12);
    }

    /** Promise 26: "BOOKS begin anew"; terms 3: "BOOKS count CUPS since POURED anew": all of them, whichever cell it was. */
    private static void booksBeginAnew() {
        GroundWaters x = oneCell(500, 99, 9);
        x.cell(500, 99, 9);
        x.river(0, 0, 0, 9);
        x.river(1, 1000, 0, 9);
        x.drain(1, 0, 1);
        x.well(1, 5, 0);
        x.rate(0, 5);
        x.tick(10);
        for (int b = 0; b < 5; b++) due(30, "book(" + b + ") ahead of any pour: above 0", x.book(b) > 0 ? 1 : 0, 1);
        x.pour(1, x.cups(1));
        for (int b = 0; b < 6; b++) due(26, "book(" + b + ") behind a pour that changes no cups", x.book(b), 0);
        x.tick(1);
        due(30, "book(0)", x.book(0), 198);
        x.pour(0, 0);
        due(26, "book(0) behind a pour of nothing", x.book(0), 0);
    }

    private static void booksOfARefusedPour() {
        GroundWaters x = oneCell(0, 7, 1);
        x.tick(3);
        x.pour(0, -1);
        due(26, "book(0) behind a pour that was BAD", x.book(0), 21);
        x.pour(1, 5);
        due(26, "book(0) behind a pour that was UNKNOWN", x.book(0), 21);
        x.tick(1);
        due(30, "book(0) goes on", x.book(0), 28);
    }

    /** Terms 3: "0 at first". */
    private static void cupsAtFirst() {
        GroundWaters x = new GroundWaters();
        for (int c = 0; c < 6; c++) {
            x.cell(c, 0, 1 + c);
            due(27, "cups(" + c + ") at first", x.cups(c), 0);
            due(28, "mark(" + c + ") at first: its bottom", x.mark(c), c);
        }
        for (int no : new int[] {6, -1, MIN, MAX}) {
            due(27, "cups(" + no + ")", x.cups(no), UNKNOWN);
            due(28, "mark(" + no + ")", x.mark(no), UNKNOWN);
        }
    }

    /** Terms 3: "its MARK is CUPS by STORE, cut, and its BOTTOM". */
    private static void marksAreCut() {
        GroundWaters x = oneCell(3, 0, 9);
        int[][] rows = {{0, 3}, {1, 3}, {8, 3}, {9, 4}, {10, 4}, {17, 4}, {18, 5}};
        for (int[] row : rows) {
            x.pour(0, row[0]);
            due(28, "mark(0) with " + row[0] + " cups", x.mark(0), row[1]);
        }
    }

    private static void marksAtTheirMost() {
        GroundWaters x = oneCell(500, 0, 1);
        x.cell(500, 0, 9);
        x.pour(0, MOST);
        x.pour(1, MOST);
        due(28, "mark(0)", x.mark(0), 1000500);
        due(28, "mark(1)", x.mark(1), 111611);
    }

    /** Promise 29: "n TICKS (1 .. 100)". */
    private static void oneToAHundredTicks() {
        GroundWaters x = oneCell(0, 1, 1);
        for (int n : new int[] {0, -1, 101, MIN, MAX}) due(29, "tick(" + n + ")", x.tick(n), BAD);
        due(27, "cups(0): nothing went by", x.cups(0), 0);
        due(29, "tick(1): the least", x.tick(1), 1);
        due(29, "tick(100): the most", x.tick(100), 101);
        due(30, "book(0)", x.book(0), 101);
        due(29, "tick(100) without cells", new GroundWaters().tick(100), 0);
        due(29, "tick(0) without cells", new GroundWaters().tick(0), BAD);
    }

    /** Promise 29: "all CUPS then". */
    private static void allCups() {
        GroundWaters x = new GroundWaters();
        for (int c = 0; c < 6; c++) {
            x.cell(0, 99, 1);
            x.pour(c, MOST);
        }
        due(29, "tick(100) of six full cells", x.tick(100), 6 * MOST);
        due(30, "book(0)", x.book(0), 59400);
        due(30, "book(5)", x.book(5), 59400);
    }

    /** Terms 3: "RAIN comes, CELL by CELL", ahead of rivers: so what came may leave at once. */
    private static void rainComesFirst() {
        GroundWaters x = oneCell(500, 10, 1);
        x.river(0, 0, 0, 9);
        // mark 500: the river would take 45, and finds the rain
        due(29, "tick(1)", x.tick(1), 0);
        due(30, "book(0)", x.book(0), 10);
        due(30, "book(2)", x.book(2), 10);
    }

    /** Terms 3: "by MARKS as they are ahead of it". */
    private static void marksAheadOfTheTick() {
        GroundWaters x = oneCell(0, 99, 1);
        x.cell(0, 0, 1);
        x.link(0, 1, 9);
        x.drain(0, 0, 9);
        x.river(0, 50, 0, 9);
        // mark 0: the river gives 4, nothing leaves as yet
        due(29, "tick(1)", x.tick(1), 103);
        due(27, "cups(1)", x.cups(1), 0);
        due(30, "book(3)", x.book(3), 0);
        // mark 103: the river takes 4, the link and the drain 9 each
        due(29, "tick(1)", x.tick(1), 103 + 99 - 4 - 9);
        due(27, "cups(1)", x.cups(1), 9);
        due(30, "book(2)", x.book(2), 4);
        due(30, "book(3)", x.book(3), 9);
    }

    /** Terms 3: "STAGE less MARK, or less BED, if MARK is below it". */
    private static void riverBelowItsBed() {
        int[][] rows = {{0, 18}, {399, 18}, {400, 18}, {401, 17}, {411, 17}, {412, 16}, {500, 9}};
        for (int[] row : rows) {
            GroundWaters x = oneCell(0, 0, 1);
            x.river(0, 600, 400, 9);
            x.pour(0, row[0]);
            due(29, "tick(1) with mark " + row[0] + ", stage 600 and bed 400", x.tick(1), row[0] + row[1]);
            due(30, "book(1)", x.book(1), row[1]);
        }
        GroundWaters y = oneCell(0, 0, 1);
        y.river(0, 600, 500, 1);
        y.tick(1);
        due(30, "book(1): no more than from its bed", y.book(1), 1);
        y.pour(0, 500);
        y.tick(1);
        due(30, "book(1) at its bed", y.book(1), 1);
        y.pour(0, 501);
        y.tick(1);
        due(30, "book(1) above its bed: 99 by 100", y.book(1), 0);
    }

    private static void riverAtItsStage() {
        GroundWaters x = oneCell(0, 0, 1);
        x.river(0, 300, 300, 9);
        for (int mark : new int[] {0, 299, 300, 311}) {
            x.pour(0, mark);
            due(29, "tick(1) with mark " + mark + ", stage and bed 300", x.tick(1), mark);
        }
        x.pour(0, 312);
        due(29, "tick(1) with mark 312: 108 by 100", x.tick(1), 311);
    }

    /** Terms 3: "by 100, cut towards 0, comes to its CELL, or leaves it". */
    private static void riverCutTowardsNothing() {
        GroundWaters x = oneCell(0, 0, 1);
        x.river(0, 500, 0, 1);
        int[][] rows = {{300, 2}, {301, 1}, {400, 1}, {401, 0}, {500, 0}, {599, 0}, {600, -1}, {699, -1}, {700, -2}};
        for (int[] row : rows) {
            x.pour(0, row[0]);
            due(29, "tick(1) with mark " + row[0] + " and stage 500", x.tick(1), row[0] + row[1]);
            due(30, "book(1)", x.book(1), Math.max(0, row[1]));
            due(30, "book(2)", x.book(2), Math.max(0, -row[1]));
        }
    }

    /** Terms 3: ".. or leaves it, as far as there is so much". */
    private static void riverTakesWhatIsThere() {
        GroundWaters x = oneCell(500, 0, 9);
        x.river(0, 0, 0, 9);
        int[][] rows = {{0, 0}, {1, 1}, {44, 44}, {45, 45}, {46, 45}};
        for (int[] row : rows) {
            x.pour(0, row[0]);
            x.tick(1);
            due(30, "book(2) with " + row[0] + " cups where 45 would leave", x.book(2), row[1]);
            due(27, "cups(0)", x.cups(0), row[0] - row[1]);
        }
    }

    /** Terms 3: "RIVERS by number". */
    private static void riversByNumber() {
        GroundWaters x = oneCell(500, 0, 1);
        x.river(0, 1000, 0, 9);
        x.river(0, 0, 0, 9);
        due(29, "tick(1): the first gives 45, the second takes them", x.tick(1), 0);
        GroundWaters y = oneCell(500, 0, 1);
        y.river(0, 0, 0, 9);
        y.river(0, 1000, 0, 9);
        due(29, "tick(1): the first finds nothing, the second gives 45", y.tick(1), 45);
    }

    /** Terms 3: LINKS "by 100, cut towards 0, goes from the one to the other". */
    private static void linkCutTowardsNothing() {
        int[][] rows = {{200, 2}, {199, 1}, {100, 1}, {99, 0}, {0, 0}, {-99, 0}, {-100, -1}, {-199, -1}, {-200, -2}};
        for (int[] row : rows) {
            GroundWaters x = oneCell(0, 0, 1);
            x.cell(0, 0, 1);
            x.link(0, 1, 1);
            x.pour(0, 500);
            x.pour(1, 500 - row[0]);
            x.tick(1);
            due(27, "cups(0) with marks " + row[0] + " apart", x.cups(0), 500 - row[1]);
            due(27, "cups(1) with marks " + row[0] + " apart", x.cups(1), 500 - row[0] + row[1]);
        }
    }

    /** Terms 3: "as far as there is so much in the one". */
    private static void linkGivesWhatIsThere() {
        int[][] rows = {{0, 0}, {1, 1}, {44, 44}, {45, 45}, {46, 45}};
        for (int[] row : rows) {
            for (int from = 0; from < 2; from++) {
                GroundWaters x = oneCell(500, 0, 9);
                x.cell(0, 0, 9);
                x.link(from, 1 - from, 9);
                x.pour(0, row[0]);
                due(29, "tick(1): nothing is lost", x.tick(1), row[0]);
                due(27, "cups(1) with " + row[0] + " cups where 45 would go, link from " + from, x.cups(1), row[1]);
            }
        }
    }

    /** Terms 3: "LINKS by number": what came by one may go on by a later one in the same tick. */
    private static void linksByNumber() {
        for (int first = 0; first < 2; first++) {
            GroundWaters x = oneCell(500, 0, 9);
            x.cell(250, 0, 9);
            x.cell(0, 0, 9);
            x.link(first, first + 1, 9);
            x.link(1 - first, 2 - first, 9);
            x.pour(0, 10);
            x.tick(1);
            due(27, "cups(1) with the link from cell " + first + " ahead", x.cups(1), first == 0 ? 0 : 10);
            due(27, "cups(2) with the link from cell " + first + " ahead", x.cups(2), first == 0 ? 10 : 0);
        }
    }

    /** Terms 3: DRAINS "e (MARK less LEVEL, if that is above 0) by 100, cut, leaves, as far as there is so much". */
    private static void drainAtItsLevel() {
        GroundWaters x = oneCell(0, 0, 1);
        x.drain(0, 300, 1);
        int[][] rows = {{0, 0}, {299, 0}, {300, 0}, {301, 0}, {399, 0}, {400, 1}, {499, 1}, {500, 2}};
        for (int[] row : rows) {
            x.pour(0, row[0]);
            due(29, "tick(1) with mark " + row[0] + " and level 300", x.tick(1), row[0] - row[1]);
            due(30, "book(3)", x.book(3), row[1]);
        }
        GroundWaters y = oneCell(500, 0, 9);
        y.drain(0, 0, 9);
        int[][] few = {{0, 0}, {1, 1}, {44, 44}, {45, 45}, {46, 45}};
        for (int[] row : few) {
            y.pour(0, row[0]);
            y.tick(1);
            due(30, "book(3) with " + row[0] + " cups where 45 would leave", y.book(3), row[1]);
        }
        GroundWaters z = oneCell(0, 0, 1);
        z.drain(0, 1000, 9);
        z.pour(0, 5);
        due(29, "tick(1) far below its level: nothing comes back", z.tick(1), 5);
    }

    private static void drainsByNumber() {
        GroundWaters x = oneCell(500, 0, 9);
        x.cell(0, 0, 1);
        x.drain(0, 0, 9);
        x.drain(0, 0, 9);
        x.pour(0, 60);
        due(29, "tick(1): the first drain takes 45, the second 15", x.tick(1), 0);
        due(30, "book(3)", x.book(3), 60);
    }

    /** Terms 3: "WELLS by number take their RATE, as far as there is so much". */
    private static void wellsByNumber() {
        GroundWaters x = oneCell(0, 0, 1);
        x.well(0, 99, 0);
        x.well(0, 99, 0);
        x.rate(0, 30);
        x.rate(1, 20);
        int[][] rows = {{0, 0}, {1, 1}, {29, 29}, {30, 30}, {49, 49}, {50, 50}, {51, 50}};
        for (int[] row : rows) {
            x.pour(0, row[0]);
            due(29, "tick(1) with " + row[0] + " cups where 50 would leave", x.tick(1), row[0] - row[1]);
            due(30, "book(4)", x.book(4), row[1]);
        }
    }

    /** Terms 3: rivers, then links, then drains, then wells: who comes late finds less. */
    private static void orderOfKinds() {
        int[] cups = {20, 60, 100, 120, 200};
        int[][] due = {{20, 0, 0, 0}, {45, 15, 0, 0}, {45, 45, 10, 0}, {46, 46, 28, 0}, {46, 46, 46, 50}};
        for (int i = 0; i < cups.length; i++) {
            GroundWaters x = oneCell(500, 0, 9);
            x.cell(0, 0, 9);
            x.well(0, 99, 0);
            x.rate(0, 50);
            x.drain(0, 0, 9);
            x.link(0, 1, 9);
            x.river(0, 0, 0, 9);
            x.pour(0, cups[i]);
            x.tick(1);
            due(30, "book(2) with " + cups[i] + " cups", x.book(2), due[i][0]);
            due(29, "cups(1) with " + cups[i] + " cups", x.cups(1), due[i][1]);
            due(30, "book(3) with " + cups[i] + " cups", x.book(3), due[i][2]);
            due(30, "book(4) with " + cups[i] + " cups", x.book(4), due[i][3]);
        }
    }

    private static void wellOfRateNothing() {
        GroundWaters x = oneCell(0, 0, 1);
        x.well(0, 99, 0);
        x.pour(0, 40);
        due(29, "tick(1) with a rate of 0", x.tick(1), 40);
        due(30, "book(4) with a rate of 0", x.book(4), 0);
    }

    /** Terms 3: "What would be above 1000000 in a CELL runs off": 1000000 does not. */
    private static void fullToTheBrim() {
        GroundWaters x = oneCell(0, 5, 1);
        x.pour(0, MOST - 5);
        due(29, "tick(1): just full", x.tick(1), MOST);
        due(30, "book(5): nothing ran off", x.book(5), 0);
        x.pour(0, MOST - 4);
        due(29, "tick(1): one too many", x.tick(1), MOST);
        due(30, "book(5)", x.book(5), 1);
        due(29, "tick(100)", x.tick(100), MOST);
        due(30, "book(5)", x.book(5), 501);
        due(30, "book(0): rain that came", x.book(0), 505);
    }

    /** Terms 3: "runs off at once, whenever something comes to it": a well that takes later does not save it. */
    private static void rainRunsOffAtOnce() {
        GroundWaters x = oneCell(0, 5, 1);
        x.well(0, 99, 0);
        x.rate(0, 8);
        x.pour(0, MOST);
        due(29, "tick(1)", x.tick(1), MOST - 8);
        due(30, "book(5)", x.book(5), 5);
        due(30, "book(4)", x.book(4), 8);
        due(29, "tick(1): now there is room", x.tick(1), MOST - 11);
        due(30, "book(5)", x.book(5), 5);
    }

    private static void linksRunOffAtOnce() {
        for (int first = 0; first < 2; first++) {
            GroundWaters x = oneCell(500, 0, 9);
            x.cell(0, 0, 9);
            x.cell(0, 0, 9);
            if (first == 1) x.link(1, 2, 9);
            x.link(0, 1, 9);
            if (first == 0) x.link(1, 2, 9);
            x.pour(0, MOST);
            x.pour(1, MOST);
            x.pour(2, MOST - 4500);
            // marks 111611, 111111, 110611: 45 come to cell 1, and 45 leave it
            x.tick(1);
            due(27, "cups(1), " + (first == 0 ? "what comes is ahead" : "what leaves is ahead"), x.cups(1), first == 0 ? MOST - 45 : MOST);
            due(30, "book(5)", x.book(5), first == 0 ? 45 : 0);
            due(27, "cups(0)", x.cups(0), MOST - 45);
            due(27, "cups(2)", x.cups(2), MOST - 4455);
        }
    }

    /** Terms 3: "0 RAIN that came, 1 what RIVERS gave, 2 what they took, 3 what DRAINS took, 4 what WELLS took, 5 what ran off". */
    private static void booksCountWhatMoved() {
        GroundWaters x = new GroundWaters();
        for (int c = 0; c < 5; c++) x.cell(c == 4 ? 0 : 500, c == 0 || c == 4 ? 7 : 0, 9);
        x.river(1, 1000, 0, 2);
        x.river(2, 0, 0, 1);
        x.drain(3, 0, 4);
        x.well(3, 9, 0);
        x.rate(0, 6);
        x.pour(2, 50);
        x.pour(3, 50);
        x.pour(4, MOST);
        x.tick(1);
        long[] want = {14, 10, 5, 20, 6, 7};
        for (int b = 0; b < 6; b++) due(30, "book(" + b + ")", x.book(b), want[b]);
        // 14, 10 + 9, 50 - 5 - 5, 50 - 20 - 6 - 20 - 4, full
        due(29, "tick(1)", x.tick(1), 14 + 19 + 40 + 0 + MOST);
        due(30, "book(4): the well finds 4", x.book(4), 10);
    }

    /** Promise 30: "BOOKS (0 .. 5). BAD." Refusals are told as longs likewise. */
    private static void booksThatAreNotThere() {
        GroundWaters x = new GroundWaters();
        for (int b : new int[] {-1, 6, 100, MIN, MAX}) due(30, "book(" + b + ")", x.book(b), -10000002L);
        for (int b = 0; b < 6; b++) due(30, "book(" + b + ") of a new object", x.book(b), 0L);
    }
}
