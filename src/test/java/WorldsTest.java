/** Promises 31 to 36: worlds that may be, and the test that parts them best. */
public final class WorldsTest {
    private static final Check CHECK = new Check("WorldsTest");
    private static final int UNKNOWN = -10000001, BAD = -10000002, STATE = -10000003, FULL = -10000004, NONE = -10000009;

    public static void main(String[] args) {
        worldsAndSeen();
        theNextTest();
        worldsFollowTheLand();
        worldsWithoutRest();
        refusals();
        CHECK.end();
    }

    private static void due(int promise, String call, long got, long want) {
        CHECK.due("promise " + promise, call, got, want);
    }

    /** Rain of 12 in cell 0 goes by link 0 to cell 1 and its river: h1 = 11, h0 = 11 + 12 / ease. */
    private static GroundWaters twoCells() {
        GroundWaters x = new GroundWaters();
        x.cell(0, 12, 1);
        x.cell(0, 0, 1);
        x.link(0, 1, 1);
        x.river(1, 5, 0, 2);
        return x;
    }

    private static void worldsAndSeen() {
        GroundWaters x = twoCells();
        due(33, "left() without worlds", x.left(), 0);
        due(36, "alike(0) without worlds", x.alike(0), 0);
        for (int i = 0; i < 5; i++) due(31, "world(0, " + (i + 1) + ")", x.world(0, i + 1), i);
        long[] want = {23000, 17000, 15000, 14000, 13400};
        for (int w = 0; w < 5; w++) due(34, "inWorld(" + w + ", 0)", x.inWorld(w, 0), want[w]);
        due(34, "inWorld(4, 1)", x.inWorld(4, 1), 11000);
        due(33, "left() with nothing seen", x.left(), 31);
        due(32, "see(0, 15000, 1000)", x.see(0, 15000, 1000), 1);
        due(33, "left()", x.left(), 4 + 8);
        due(32, "see(0, 15000, 999)", x.see(0, 15000, 999), 1);
        due(33, "left(): so far off at most", x.left(), 4);
        due(32, "see(0, 16000, 1000)", x.see(0, 16000, 1000), 1);
        due(33, "left(): off both ways", x.left(), 2 + 4);
        due(32, "see(0, 13400, 0)", x.see(0, 13400, 0), 1);
        due(33, "left(): no give", x.left(), 16);
        due(32, "see(1, 11001, 0)", x.see(1, 11001, 0), 1);
        due(33, "left(): all that was seen counts", x.left(), 0);
        due(32, "see(1, 11001, 1)", x.see(1, 11001, 1), 1);
        due(33, "left()", x.left(), 16);
        due(32, "see(0, 0, -1)", x.see(0, 0, -1), 0);
        due(33, "left(): nothing is seen there any more", x.left(), 31);
        due(48, "count(7)", x.count(7), 1);
        due(32, "see(1, 5, min)", x.see(1, 5, Integer.MIN_VALUE), 0);
        due(48, "count(7)", x.count(7), 0);
        due(32, "see(0, 9000000, 100000)", x.see(0, 9000000, 100000), 1);
        due(32, "see(0, -9000000, 0)", x.see(0, -9000000, 0), 1);
    }

    private static void theNextTest() {
        GroundWaters x = new GroundWaters();
        // 12 goes from cell 0 over 1 and 2 to a river in 3
        x.cell(0, 12, 1);
        for (int i = 1; i < 4; i++) x.cell(0, 0, 1);
        x.link(0, 1, 1);
        x.link(1, 2, 1);
        x.link(2, 3, 1);
        x.river(3, 8, 0, 3);
        // heads 48 36 24 12
        x.world(0, 2);
        x.world(1, 2);
        x.world(1, 4);
        x.world(2, 3);
        // at 0: 42 42 39 40; at 1: 36 30 27 28; at 2: 24 24 24 16; at 3: 12
        long[] want = {2, 1, 3, 4};
        for (int c = 0; c < 4; c++) due(36, "alike(" + c + ")", x.alike(c), want[c]);
        due(35, "next()", x.next(), 1);
        x.see(1, 30000, 100000);
        due(35, "next() with cell 1 seen", x.next(), 0);
        due(36, "alike(1) of a cell that is seen", x.alike(1), 1);
        x.see(1, 28000, 1000);
        due(33, "left()", x.left(), 12);
        due(36, "alike(2): 24 and 16", x.alike(2), 1);
        due(35, "next(): of like ones the least cell", x.next(), 0);
        x.see(0, 40000, 9000);
        due(35, "next() with cells 0, 1 seen", x.next(), 2);
        x.see(2, 20000, 9000);
        due(35, "next(): only cell 3 is left", x.next(), 3);
        x.see(3, 12000, 0);
        due(35, "next(): all cells are seen", x.next(), NONE);
        x.see(3, 0, -1);
        x.see(2, 0, 0);
        due(35, "next(): no world is left", x.next(), NONE);
        due(36, "alike(3): no world is left", x.alike(3), 0);
    }

    private static void worldsFollowTheLand() {
        GroundWaters x = twoCells();
        x.world(0, 4);
        due(34, "inWorld(0, 0)", x.inWorld(0, 0), 14000);
        due(13, "milli(0): the land stays as it is", x.milli(0), 23000);
        x.rain(0, 8);
        due(34, "inWorld(0, 0) with other rain", x.inWorld(0, 0), 11000);
        x.ease(0, 9);
        due(34, "inWorld(0, 0): its link's ease is the world's", x.inWorld(0, 0), 11000);
        x.link(1, 0, 4);
        due(34, "inWorld(0, 0) with one link more", x.inWorld(0, 0), 10000);
        due(8, "ease(0, 1): what it was", x.ease(0, 1), 9);
    }

    private static void worldsWithoutRest() {
        GroundWaters x = new GroundWaters();
        x.cell(0, 0, 1);
        x.cell(0, 0, 1);
        x.link(0, 1, 1);
        x.world(0, 2);
        due(33, "left() without rest", x.left(), 0);
        due(34, "inWorld(0, 1)", x.inWorld(0, 1), STATE);
        due(35, "next()", x.next(), NONE);
        due(36, "alike(0)", x.alike(0), 0);
        x.drain(0, 3, 1);
        x.rain(1, 1);
        due(33, "left() with a rest", x.left(), 1);
        due(34, "inWorld(0, 1)", x.inWorld(0, 1), 4500);
        due(35, "next(): of like ones the least cell", x.next(), 0);
        due(36, "alike(0) of one world", x.alike(0), 1);
        due(32, "see(0, 4000, 0)", x.see(0, 4000, 0), 1);
        due(48, "count(7)", x.count(7), 1);
        due(33, "left()", x.left(), 1);
    }

    private static void refusals() {
        GroundWaters x = twoCells();
        due(31, "world(1, 0)", x.world(1, 0), UNKNOWN);
        due(31, "world(-1, 1)", x.world(-1, 1), UNKNOWN);
        due(31, "world(0, 0)", x.world(0, 0), BAD);
        due(31, "world(0, 10)", x.world(0, 10), BAD);
        for (int i = 0; i < 5; i++) due(31, "world(0, 9)", x.world(0, 9), i);
        due(31, "a sixth world that is bad", x.world(0, 10), BAD);
        due(31, "a sixth world", x.world(0, 9), FULL);
        due(48, "count(5)", x.count(5), 5);
        for (int no : new int[] {-1, 5, Integer.MAX_VALUE, Integer.MIN_VALUE}) {
            due(34, "inWorld(" + no + ", 0)", x.inWorld(no, 0), UNKNOWN);
            due(34, "inWorld(0, " + no + ")", x.inWorld(0, no), UNKNOWN);
            due(36, "alike(" + no + ")", x.alike(no), UNKNOWN);
            due(32, "see(" + no + ", 9000001, 0)", x.see(no, 9000001, 0), UNKNOWN);
        }
        due(32, "see(0, 9000001, 0)", x.see(0, 9000001, 0), BAD);
        due(32, "see(0, -9000001, 0)", x.see(0, -9000001, 0), BAD);
        due(32, "see(0, 9000001, -1)", x.see(0, 9000001, -1), BAD);
        due(32, "see(0, 0, 100001)", x.see(0, 0, 100001), BAD);
        due(48, "count(7): nothing has changed", x.count(7), 0);
    }
}
