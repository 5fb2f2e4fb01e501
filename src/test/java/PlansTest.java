/** Promises 41 to 47: limits, the best plan, prices, harm and its shares. */
public final class PlansTest {
    private static final Check CHECK = new Check("PlansTest");
    private static final int UNKNOWN = -10000001, BAD = -10000002, STATE = -10000003, NONE = -10000009;

    public static void main(String[] args) {
        limits();
        onePlan();
        likePlans();
        levelsAreCut();
        drynessAndPermits();
        withoutWells();
        prices();
        harmOfOne();
        harmOfThree();
        harmOfTwoWithoutRest();
        CHECK.end();
    }

    private static void due(int promise, String call, long got, long want) {
        CHECK.due("promise " + promise, call, got, want);
    }

    /** One cell with a river of ease 1 at a stage of 100: its head is 100 less all rates. */
    private static GroundWaters pond() {
        GroundWaters x = new GroundWaters();
        x.cell(0, 0, 1);
        x.river(0, 100, 0, 1);
        return x;
    }

    private static void put(GroundWaters x, String text) {
        x.wipe();
        for (int i = 0; i < text.length(); i++) x.sign(text.charAt(i));
    }

    private static void limits() {
        GroundWaters x = pond();
        due(41, "limit(1, 0)", x.limit(1, 0), UNKNOWN);
        due(41, "limit(-1, -1)", x.limit(-1, -1), UNKNOWN);
        due(41, "limit(0, -1)", x.limit(0, -1), BAD);
        due(41, "limit(0, 2000001)", x.limit(0, 2000001), BAD);
        due(41, "limit(0, -10000008)", x.limit(0, -10000008), BAD);
        due(41, "limit(0, 0)", x.limit(0, 0), NONE);
        due(41, "limit(0, 2000000)", x.limit(0, 2000000), 0);
        due(41, "limit(0, NONE)", x.limit(0, NONE), 2000000);
        due(41, "limit(0, 7)", x.limit(0, 7), NONE);
        due(41, "limit(0, NONE)", x.limit(0, NONE), 7);
    }

    private static void onePlan() {
        GroundWaters x = pond();
        x.well(0, 80, 3);
        x.rate(0, 7);
        due(42, "worth()", x.worth(), 240);
        due(43, "level(0)", x.level(0), 4);
        due(43, "level(1)", x.level(1), UNKNOWN);
        due(43, "level(-1)", x.level(-1), UNKNOWN);
        due(48, "count(8): asking changes no rate", x.count(8), 7);
        x.limit(0, 60000);
        due(42, "worth() at its limit", x.worth(), 120);
        due(43, "level(0)", x.level(0), 2);
        x.limit(0, 60001);
        due(42, "worth() a little below", x.worth(), 60);
        due(44, "draw()", x.draw(), 60);
        due(48, "count(8)", x.count(8), 20);
        due(13, "milli(0)", x.milli(0), 80000);
        x.limit(0, 100001);
        due(42, "worth(): no plan may be", x.worth(), NONE);
        due(43, "level(0)", x.level(0), NONE);
        due(43, "level(1)", x.level(1), UNKNOWN);
        due(44, "draw()", x.draw(), NONE);
        due(48, "count(8): nothing changes", x.count(8), 20);
        x.limit(0, 100000);
        due(44, "draw()", x.draw(), 0);
        due(48, "count(8)", x.count(8), 0);
    }

    private static void likePlans() {
        GroundWaters x = pond();
        x.well(0, 8, 2);
        x.well(0, 4, 4);
        x.well(0, 4, 4);
        x.limit(0, 96000);
        // 4 may be drawn in all; most worth: 16, by wells 1 and 2 alone
        due(42, "worth()", x.worth(), 16);
        due(43, "level(0)", x.level(0), 0);
        due(43, "level(1): of like ones the first by levels", x.level(1), 0);
        due(43, "level(2)", x.level(2), 4);
        GroundWaters y = pond();
        y.well(0, 40, 2);
        y.well(0, 80, 1);
        put(y, "(q0=0&q1=80)|(q0=40&q1=0)");
        due(42, "worth()", y.worth(), 80);
        due(43, "level(0): of like ones the least rates, though not the first", y.level(0), 4);
        due(43, "level(1)", y.level(1), 0);
        GroundWaters z = pond();
        z.well(0, 40, 0);
        z.well(0, 40, 0);
        put(z, "q0=20&q1=0|q0=0&q1=20|q0=10&q1=10");
        due(43, "level(0): first by level of well 0", z.level(0), 0);
        due(43, "level(1)", z.level(1), 2);
        z.wipe();
        due(42, "worth() of nothing", z.worth(), 0);
        due(43, "level(1): the least rates", z.level(1), 0);
    }

    private static void levelsAreCut() {
        GroundWaters x = pond();
        x.well(0, 7, 1);
        int[] rates = {0, 1, 3, 5, 7};
        for (int i = 0; i < 5; i++) {
            x.limit(0, 100000 - 1000 * rates[i]);
            due(42, "worth() at level " + i, x.worth(), rates[i]);
            due(43, "level(0) at level " + i, x.level(0), i);
        }
        GroundWaters y = pond();
        y.well(0, 1, 9);
        y.limit(0, 100000);
        due(43, "level(0): levels of rate 0 are like", y.level(0), 0);
        due(42, "worth()", y.worth(), 0);
    }

    private static void drynessAndPermits() {
        GroundWaters x = new GroundWaters();
        x.cell(50, 0, 1);
        x.river(0, 100, 0, 1);
        x.well(0, 60, 1);
        due(42, "worth(): level 3 is dry not yet, 4 would be", x.worth(), 45);
        put(x, "h0>84999");
        due(42, "worth() with a permit", x.worth(), 15);
        put(x, "h0>85000");
        due(42, "worth() with a stricter permit", x.worth(), 0);
        put(x, "q0>15&!g0>44999");
        due(42, "worth() with a permit of rates and gifts", x.worth(), 30);
        put(x, "h0>100000");
        due(42, "worth(): the permit never holds", x.worth(), NONE);
        x.sign('x');
        due(42, "worth(): a permit with a fault asks nothing", x.worth(), 45);
        x.wipe();
        due(42, "worth() without signs", x.worth(), 45);
        due(44, "draw()", x.draw(), 45);
        x.stage(0, 40);
        due(42, "worth(): dry without any pumping", x.worth(), NONE);
        GroundWaters y = new GroundWaters();
        y.cell(0, 0, 1);
        y.river(0, 8, 4, 5);
        y.well(0, 40, 1);
        due(42, "worth(): beyond 20 there is no rest", y.worth(), 20);
    }

    private static void withoutWells() {
        GroundWaters x = new GroundWaters();
        x.cell(5, 0, 1);
        due(42, "worth() without rest", x.worth(), NONE);
        due(44, "draw() without rest", x.draw(), NONE);
        x.river(0, 9, 0, 1);
        due(42, "worth() without wells", x.worth(), 0);
        due(44, "draw() without wells", x.draw(), 0);
        due(43, "level(0) without wells", x.level(0), UNKNOWN);
        x.limit(0, 9001);
        due(42, "worth() without wells beyond a limit", x.worth(), NONE);
        due(46, "harm(0) without wells", x.harm(0), 0);
        due(47, "share(0, 0) without wells", x.share(0, 0), UNKNOWN);
    }

    private static void prices() {
        GroundWaters x = pond();
        x.cell(0, 0, 1);
        x.link(0, 1, 1);
        x.well(0, 40, 5);
        x.well(1, 40, 1);
        due(45, "price(0) without limit", x.price(0), 0);
        due(45, "price(2)", x.price(2), UNKNOWN);
        due(45, "price(-1)", x.price(-1), UNKNOWN);
        // h0 = 100 - q0 - q1, h1 = 100 - q0 - 2 q1: with 40 and 40 cell 1 would be dry
        due(42, "worth()", x.worth(), 230);
        x.limit(0, 50000);
        // all rates 50 at most: 40 * 5 + 10
        due(42, "worth()", x.worth(), 210);
        due(45, "price(0)", x.price(0), 20);
        x.limit(1, 55000);
        // 40 and 0
        due(42, "worth()", x.worth(), 200);
        due(45, "price(0): the other limit holds as well", x.price(0), 0);
        due(45, "price(1)", x.price(1), 10);
        x.limit(1, 100001);
        due(45, "price(1): no plan may be with it", x.price(1), NONE);
        due(45, "price(0): no plan may be with the other one", x.price(0), NONE);
        x.limit(0, NONE);
        due(45, "price(0): it has none", x.price(0), 0);
        x.limit(1, 0);
        due(45, "price(1) of a limit that costs nothing", x.price(1), 0);
        due(41, "limit(1, NONE): asking for a price changes nothing", x.limit(1, NONE), 0);
        due(48, "count(8): nor any rate", x.count(8), 0);
    }

    private static void harmOfOne() {
        GroundWaters x = new GroundWaters();
        x.cell(0, 0, 1);
        x.river(0, 100, 0, 3);
        x.well(0, 99, 0);
        due(46, "harm(0) of no rate", x.harm(0), 0);
        x.rate(0, 10);
        // 100 - 96 2/3; milli 96666
        due(46, "harm(0)", x.harm(0), 3334);
        due(47, "share(0, 0): six times", x.share(0, 0), 20004);
        due(46, "harm(1)", x.harm(1), UNKNOWN);
        due(46, "harm(-1)", x.harm(-1), UNKNOWN);
        due(47, "share(1, 0)", x.share(1, 0), UNKNOWN);
        due(47, "share(0, 1)", x.share(0, 1), UNKNOWN);
        due(47, "share(-1, 0)", x.share(-1, 0), UNKNOWN);
        due(47, "share(0, -1)", x.share(0, -1), UNKNOWN);
        due(48, "count(8): rates stay", x.count(8), 10);
        x.stage(0, 3);
        due(46, "harm(0) without rest as they are", x.harm(0), STATE);
        due(47, "share(0, 0) without rest", x.share(0, 0), STATE);
        x.rate(0, 0);
        due(46, "harm(0)", x.harm(0), 0);
        GroundWaters y = new GroundWaters();
        y.cell(0, 0, 1);
        y.drain(0, 0, 1);
        y.well(0, 9, 0);
        due(46, "harm(0) without rest with rates 0", y.harm(0), STATE);
    }

    /** A river that hangs below its bed gives no more, so the order in which wells come matters. */
    private static void harmOfThree() {
        GroundWaters x = new GroundWaters();
        x.cell(0, 0, 1);
        x.river(0, 50, 40, 1);
        x.river(0, 50, 0, 1);
        for (int w = 0; w < 3; w++) x.well(0, 50, 0);
        x.rate(0, 10);
        x.rate(1, 20);
        x.rate(2, 24);
        // head with all rates q: 50 - q / 2 down to 40, then 60 - q
        // q: 0 50, 10 45, 20 40, 24 36, 30 30, 34 26, 44 16, 54 6
        due(46, "harm(0)", x.harm(0), 44000);
        // well 0 in all orders: 5 5, 40 - 30, 36 - 26, 16 - 6 twice
        due(47, "share(0, 0)", x.share(0, 0), 5000 + 5000 + 10000 + 10000 + 10000 + 10000);
        // well 1: 10 10, 45 - 30, 36 - 16, 26 - 6 twice
        due(47, "share(0, 1)", x.share(0, 1), 10000 + 10000 + 15000 + 20000 + 20000 + 20000);
        due(47, "share(0, 2)", x.share(0, 2), 14000 + 14000 + 19000 + 24000 + 24000 + 24000);
        x.rate(0, 0);
        due(47, "share(0, 0) of no rate", x.share(0, 0), 0);
    }

    private static void harmOfTwoWithoutRest() {
        GroundWaters x = new GroundWaters();
        x.cell(0, 0, 1);
        x.drain(0, 0, 1);
        x.rain(0, 20);
        x.well(0, 50, 0);
        x.well(0, 50, 0);
        x.rate(0, 5);
        x.rate(1, 7);
        due(47, "share(0, 0) of two", x.share(0, 0), 30000);
        due(47, "share(0, 1) of two", x.share(0, 1), 42000);
        x.rate(0, 25);
        due(47, "share(0, 1): there is no rest with well 0 alone", x.share(0, 1), STATE);
        due(46, "harm(0)", x.harm(0), STATE);
    }
}
