import java.util.List;
import java.util.function.Supplier;
import java.util.function.ToLongFunction;

/**
 * Terms 7, for each promise that names refusals: "Of several what is told first. What is refused changes nothing."
 * Each refused call is made on a land of its own, which must tell afterwards all that it told without that call. So
 * must a land of which something was only asked.
 */
public final class RefusalsTest {
    private static final Check CHECK = new Check("RefusalsTest");
    private static final int UNKNOWN = Lands.UNKNOWN, BAD = Lands.BAD, STATE = Lands.STATE, FULL = Lands.FULL, NONE = Lands.NONE;
    private static final int MIN = Lands.MIN, MAX = Lands.MAX;

    /** A land, and what it tells as long as nothing else is called. */
    private record Place(String name, Supplier<GroundWaters> make, List<String> told) {
        static Place of(String name, Supplier<GroundWaters> make) {
            return new Place(name, make, Lands.look(make.get()));
        }
    }

    private static final Place SMALL = Place.of("the small land", Lands::small), FULL_LAND = Place.of("the full land", Lands::full);
    private static final Place RESTLESS = Place.of("a land without rest", RefusalsTest::restless), EMPTY = Place.of("a new object", GroundWaters::new);

    public static void main(String[] args) {
        theLandsDiffer();
        cellsAndLinks();
        riversDrainsWells();
        changes();
        numbersThatNothingBears();
        withoutRest();
        ticks();
        worlds();
        permits();
        plans();
        whatIsAskedChangesNothing();
        CHECK.covers(2, 10);
        CHECK.covers(12, 32);
        CHECK.covers(34, 34);
        CHECK.covers(36, 37);
        CHECK.covers(40, 41);
        CHECK.covers(43, 48);
        CHECK.end();
    }

    /** Nothing holds the water of cell 2. */
    private static GroundWaters restless() {
        GroundWaters x = Lands.small();
        x.cell(0, 0, 1);
        x.see(2, 5, 5);
        return x;
    }

    private static void refused(int promise, Place at, String call, ToLongFunction<GroundWaters> ask, long want) {
        GroundWaters x = at.make.get();
        CHECK.due(promise, call + " in " + at.name, ask.applyAsLong(x), want);
        unchanged(promise, at, call, x);
    }

    private static void unchanged(int promise, Place at, String call, GroundWaters x) {
        List<String> now = Lands.look(x);
        for (int i = 0; i < now.size() && i < at.told.size(); i++) {
            if (!now.get(i).equals(at.told.get(i))) System.out.println("after " + call + ": " + now.get(i) + ", before: " + at.told.get(i));
        }
        CHECK.due(promise, call + " in " + at.name + " changes nothing", now.equals(at.told) ? 1 : 0, 1);
    }

    /** The looks must be able to tell a change. */
    private static void theLandsDiffer() {
        GroundWaters x = Lands.full();
        x.limit(5, 0);
        CHECK.due(41, "the test itself: a limit that came is seen", Lands.look(x).equals(FULL_LAND.told) ? 1 : 0, 0);
        x = Lands.full();
        x.pour(3, x.cups(3));
        CHECK.due(26, "the test itself: books that begin anew are seen", Lands.look(x).equals(FULL_LAND.told) ? 1 : 0, 0);
    }

    private static void cellsAndLinks() {
        for (Place at : List.of(EMPTY, SMALL, FULL_LAND)) {
            refused(2, at, "cell(-1, 0, 1)", x -> x.cell(-1, 0, 1), BAD);
            refused(2, at, "cell(501, 0, 1)", x -> x.cell(501, 0, 1), BAD);
            refused(2, at, "cell(0, -1, 1)", x -> x.cell(0, -1, 1), BAD);
            refused(2, at, "cell(0, 100, 1)", x -> x.cell(0, 100, 1), BAD);
            refused(2, at, "cell(0, 0, 0)", x -> x.cell(0, 0, 0), BAD);
            refused(2, at, "cell(0, 0, 10)", x -> x.cell(0, 0, 10), BAD);
            refused(2, at, "cell(min, max, min)", x -> x.cell(MIN, MAX, MIN), BAD);
            refused(3, at, "link(0, 6, 1)", x -> x.link(0, 6, 1), UNKNOWN);
            refused(3, at, "link(6, 0, 0): UNKNOWN ahead of BAD", x -> x.link(6, 0, 0), UNKNOWN);
            refused(3, at, "link(6, 6, 1): UNKNOWN ahead of STATE", x -> x.link(6, 6, 1), UNKNOWN);
            refused(3, at, "link(min, max, 1)", x -> x.link(MIN, MAX, 1), UNKNOWN);
        }
        for (Place at : List.of(SMALL, FULL_LAND)) {
            refused(3, at, "link(0, 1, 0)", x -> x.link(0, 1, 0), BAD);
            refused(3, at, "link(0, 1, 10)", x -> x.link(0, 1, 10), BAD);
            refused(3, at, "link(0, 0, 0): BAD ahead of STATE", x -> x.link(0, 0, 0), BAD);
            refused(3, at, "link(0, 0, 1): STATE, ahead of FULL", x -> x.link(0, 0, 1), STATE);
        }
        refused(2, FULL_LAND, "cell(0, 0, 1)", x -> x.cell(0, 0, 1), FULL);
        refused(3, FULL_LAND, "link(0, 1, 1)", x -> x.link(0, 1, 1), FULL);
    }

    private static void riversDrainsWells() {
        for (Place at : List.of(EMPTY, SMALL, FULL_LAND)) {
            refused(4, at, "river(6, 5, 0, 1)", x -> x.river(6, 5, 0, 1), UNKNOWN);
            refused(4, at, "river(-1, 1001, 0, 0): UNKNOWN ahead of BAD", x -> x.river(-1, 1001, 0, 0), UNKNOWN);
            refused(5, at, "drain(6, 5, 1)", x -> x.drain(6, 5, 1), UNKNOWN);
            refused(5, at, "drain(-1, -1, 0): UNKNOWN ahead of BAD", x -> x.drain(-1, -1, 0), UNKNOWN);
            refused(6, at, "well(6, 5, 1)", x -> x.well(6, 5, 1), UNKNOWN);
            refused(6, at, "well(-1, -1, 100): UNKNOWN ahead of BAD", x -> x.well(-1, -1, 100), UNKNOWN);
        }
        for (Place at : List.of(SMALL, FULL_LAND)) {
            refused(4, at, "river(0, 5, 6, 1): BAD, ahead of FULL", x -> x.river(0, 5, 6, 1), BAD);
            refused(4, at, "river(0, 1001, 0, 1)", x -> x.river(0, 1001, 0, 1), BAD);
            refused(4, at, "river(0, -1, -1, 1)", x -> x.river(0, -1, -1, 1), BAD);
            refused(4, at, "river(0, 5, -1, 1)", x -> x.river(0, 5, -1, 1), BAD);
            refused(4, at, "river(0, 5, 0, 0)", x -> x.river(0, 5, 0, 0), BAD);
            refused(4, at, "river(0, 5, 0, 10)", x -> x.river(0, 5, 0, 10), BAD);
            refused(5, at, "drain(0, -1, 1): BAD, ahead of FULL", x -> x.drain(0, -1, 1), BAD);
            refused(5, at, "drain(0, 1001, 1)", x -> x.drain(0, 1001, 1), BAD);
            refused(5, at, "drain(0, 5, 0)", x -> x.drain(0, 5, 0), BAD);
            refused(5, at, "drain(0, 5, 10)", x -> x.drain(0, 5, 10), BAD);
            refused(6, at, "well(0, -1, 1): BAD, ahead of FULL", x -> x.well(0, -1, 1), BAD);
            refused(6, at, "well(0, 100, 1)", x -> x.well(0, 100, 1), BAD);
            refused(6, at, "well(0, 1, -1)", x -> x.well(0, 1, -1), BAD);
            refused(6, at, "well(0, 1, 100)", x -> x.well(0, 1, 100), BAD);
        }
        refused(4, FULL_LAND, "river(0, 5, 0, 1)", x -> x.river(0, 5, 0, 1), FULL);
        refused(5, FULL_LAND, "drain(0, 5, 1)", x -> x.drain(0, 5, 1), FULL);
        refused(6, FULL_LAND, "well(0, 5, 1)", x -> x.well(0, 5, 1), FULL);
    }

    private static void changes() {
        for (Place at : List.of(SMALL, FULL_LAND)) {
            for (int v : new int[] {-1, 100, MIN, MAX}) refused(7, at, "rain(0, " + v + ")", x -> x.rain(0, v), BAD);
            for (int v : new int[] {0, 10, -1, MIN, MAX}) refused(8, at, "ease(0, " + v + ")", x -> x.ease(0, v), BAD);
            for (int v : new int[] {-1, 31, MIN, MAX}) refused(9, at, "rate(0, " + v + ")", x -> x.rate(0, v), BAD);
            for (int v : new int[] {19, -1, 1001, MIN, MAX}) refused(10, at, "stage(0, " + v + ")", x -> x.stage(0, v), BAD);
        }
        refused(9, SMALL, "rate(0, 10): its cap and one", x -> x.rate(0, 10), BAD);
        refused(10, FULL_LAND, "stage(2, 68): its bed less one", x -> x.stage(2, 68), BAD);
        for (Place at : List.of(EMPTY, SMALL, FULL_LAND)) {
            for (int no : Lands.NO_NUMBERS) {
                refused(7, at, "rain(" + no + ", 100): UNKNOWN ahead of BAD", x -> x.rain(no, 100), UNKNOWN);
                refused(8, at, "ease(" + no + ", 0): UNKNOWN ahead of BAD", x -> x.ease(no, 0), UNKNOWN);
                refused(9, at, "rate(" + no + ", -1): UNKNOWN ahead of BAD", x -> x.rate(no, -1), UNKNOWN);
                refused(10, at, "stage(" + no + ", -1): UNKNOWN ahead of BAD", x -> x.stage(no, -1), UNKNOWN);
            }
        }
    }

    /** The first number that is not there, and others; in a land without rest too: UNKNOWN is told ahead of STATE. */
    private static void numbersThatNothingBears() {
        for (Place at : List.of(EMPTY, SMALL, FULL_LAND, RESTLESS)) {
            GroundWaters seen = at.make.get();
            for (int no : new int[] {seen.count(0), -1, MAX, MIN}) cellsNotThere(at, no);
            for (int no : new int[] {seen.count(1), -1, MAX, MIN}) refused(14, at, "flow(" + no + ")", x -> x.flow(no), UNKNOWN);
            for (int no : new int[] {seen.count(2), -1, MAX, MIN}) refused(15, at, "gives(" + no + ")", x -> x.gives(no), UNKNOWN);
            for (int no : new int[] {seen.count(3), -1, MAX, MIN}) refused(16, at, "takes(" + no + ")", x -> x.takes(no), UNKNOWN);
            for (int no : new int[] {seen.count(4), -1, MAX, MIN}) {
                refused(24, at, "zone(" + no + ")", x -> x.zone(no), UNKNOWN);
                refused(43, at, "level(" + no + ")", x -> x.level(no), UNKNOWN);
                refused(47, at, "share(0, " + no + ")", x -> x.share(0, no), UNKNOWN);
            }
            int[] ends = {seen.count(0), 99, 100 + seen.count(2), 103, 199, 200 + seen.count(3), 202, 299, 300 + seen.count(4), 303, -1, 400, MAX, MIN, MIN + 100};
            for (int end : ends) refused(25, at, "spill(0, " + end + ")", x -> x.spill(0, end), UNKNOWN);
        }
    }

    private static void cellsNotThere(Place at, int no) {
        refused(12, at, "head(" + no + ", true)", x -> x.head(no, true), UNKNOWN);
        refused(12, at, "head(" + no + ", false)", x -> x.head(no, false), UNKNOWN);
        refused(13, at, "milli(" + no + ")", x -> x.milli(no), UNKNOWN);
        refused(17, at, "dry(" + no + ")", x -> x.dry(no), UNKNOWN);
        refused(18, at, "salt(" + no + ")", x -> x.salt(no), UNKNOWN);
        refused(20, at, "way(" + no + ", 0)", x -> x.way(no, 0), UNKNOWN);
        refused(20, at, "way(" + no + ", -1)", x -> x.way(no, -1), UNKNOWN);
        refused(21, at, "end(" + no + ")", x -> x.end(no), UNKNOWN);
        refused(22, at, "time(" + no + ", true)", x -> x.time(no, true), UNKNOWN);
        refused(22, at, "time(" + no + ", false)", x -> x.time(no, false), UNKNOWN);
        refused(23, at, "wayTime(" + no + ")", x -> x.wayTime(no), UNKNOWN);
        refused(25, at, "spill(" + no + ", 0)", x -> x.spill(no, 0), UNKNOWN);
        refused(27, at, "cups(" + no + ")", x -> x.cups(no), UNKNOWN);
        refused(28, at, "mark(" + no + ")", x -> x.mark(no), UNKNOWN);
        refused(34, at, "inWorld(0, " + no + ")", x -> x.inWorld(0, no), UNKNOWN);
        refused(36, at, "alike(" + no + ")", x -> x.alike(no), UNKNOWN);
        refused(45, at, "price(" + no + ")", x -> x.price(no), UNKNOWN);
        refused(46, at, "harm(" + no + ")", x -> x.harm(no), UNKNOWN);
        refused(47, at, "share(" + no + ", 0)", x -> x.share(no, 0), UNKNOWN);
    }

    private static void withoutRest() {
        refused(12, RESTLESS, "head(0, true)", x -> x.head(0, true), STATE);
        refused(12, RESTLESS, "head(0, false)", x -> x.head(0, false), STATE);
        refused(13, RESTLESS, "milli(2)", x -> x.milli(2), STATE);
        refused(14, RESTLESS, "flow(0)", x -> x.flow(0), STATE);
        refused(15, RESTLESS, "gives(0)", x -> x.gives(0), STATE);
        refused(16, RESTLESS, "takes(0)", x -> x.takes(0), STATE);
        refused(17, RESTLESS, "dry(0)", x -> x.dry(0), STATE);
        refused(18, RESTLESS, "salt(0)", x -> x.salt(0), STATE);
        for (Place at : List.of(EMPTY, RESTLESS)) {
            refused(19, at, "through(true)", x -> x.through(true), STATE);
            refused(19, at, "through(false)", x -> x.through(false), STATE);
            refused(40, at, "holds()", x -> x.holds(), STATE);
            refused(44, at, "draw()", x -> x.draw(), NONE);
        }
        refused(20, RESTLESS, "way(0, 0)", x -> x.way(0, 0), STATE);
        refused(20, RESTLESS, "way(0, -1)", x -> x.way(0, -1), STATE);
        refused(21, RESTLESS, "end(0)", x -> x.end(0), STATE);
        refused(22, RESTLESS, "time(0, true)", x -> x.time(0, true), STATE);
        refused(22, RESTLESS, "time(2, false)", x -> x.time(2, false), STATE);
        refused(23, RESTLESS, "wayTime(0)", x -> x.wayTime(0), STATE);
        refused(24, RESTLESS, "zone(0)", x -> x.zone(0), STATE);
        for (int end : new int[] {0, 2, 100, 200, 300}) refused(25, RESTLESS, "spill(0, " + end + ")", x -> x.spill(0, end), STATE);
        refused(34, RESTLESS, "inWorld(0, 0)", x -> x.inWorld(0, 0), STATE);
        refused(46, RESTLESS, "harm(0)", x -> x.harm(0), STATE);
        refused(47, RESTLESS, "share(0, 0)", x -> x.share(0, 0), STATE);
    }

    private static void ticks() {
        for (Place at : List.of(SMALL, FULL_LAND, RESTLESS)) {
            for (int v : new int[] {-1, 1000001, MIN, MAX}) refused(26, at, "pour(0, " + v + "): books go on", x -> x.pour(0, v), BAD);
        }
        for (Place at : List.of(EMPTY, SMALL, FULL_LAND)) {
            for (int no : Lands.NO_NUMBERS) refused(26, at, "pour(" + no + ", -1): UNKNOWN ahead of BAD", x -> x.pour(no, -1), UNKNOWN);
            for (int n : new int[] {0, -1, 101, MIN, MAX}) refused(29, at, "tick(" + n + ")", x -> x.tick(n), BAD);
            for (int b : new int[] {-1, 6, MIN, MAX}) refused(30, at, "book(" + b + ")", x -> x.book(b), BAD);
            for (int b : new int[] {-1, 9, MIN, MAX}) refused(48, at, "count(" + b + ")", x -> x.count(b), BAD);
        }
    }

    private static void worlds() {
        for (Place at : List.of(EMPTY, SMALL, FULL_LAND)) {
            for (int no : Lands.NO_NUMBERS) {
                refused(31, at, "world(" + no + ", 0): UNKNOWN ahead of BAD and FULL", x -> x.world(no, 0), UNKNOWN);
                refused(32, at, "see(" + no + ", 9000001, 100001): UNKNOWN ahead of BAD", x -> x.see(no, 9000001, 100001), UNKNOWN);
                refused(34, at, "inWorld(" + no + ", 0)", x -> x.inWorld(no, 0), UNKNOWN);
            }
            refused(34, at, "inWorld(5, 0)", x -> x.inWorld(5, 0), UNKNOWN);
        }
        for (Place at : List.of(SMALL, FULL_LAND)) {
            for (int v : new int[] {0, 10, -1, MIN, MAX}) refused(31, at, "world(0, " + v + "): BAD, ahead of FULL", x -> x.world(0, v), BAD);
            for (int v : new int[] {-9000001, 9000001, MIN, MAX}) {
                refused(32, at, "see(1, " + v + ", 5)", x -> x.see(1, v, 5), BAD);
                refused(32, at, "see(1, " + v + ", -1): nor is something seen any less", x -> x.see(1, v, -1), BAD);
            }
            for (int v : new int[] {100001, MAX}) refused(32, at, "see(1, 0, " + v + ")", x -> x.see(1, 0, v), BAD);
        }
        refused(31, FULL_LAND, "world(0, 1)", x -> x.world(0, 1), FULL);
    }

    private static void permits() {
        for (Place at : List.of(EMPTY, SMALL, FULL_LAND)) {
            for (int s : new int[] {31, 127, 0, 10, -1, 104 + 256, MIN, MAX}) refused(37, at, "sign(" + s + ")", x -> x.sign(s), BAD);
        }
        Place written = Place.of("a land with 200 signs", RefusalsTest::written);
        refused(37, written, "sign(48)", x -> x.sign(48), FULL);
        refused(37, written, "sign(31): BAD ahead of FULL", x -> x.sign(31), BAD);
        Place faulty = Place.of("a land whose permit has a fault", () -> {
            GroundWaters x = Lands.small();
            x.sign('&');
            return x;
        });
        refused(40, faulty, "holds()", x -> x.holds(), STATE);
        Place wiped = Place.of("a land without signs", () -> {
            GroundWaters x = Lands.small();
            x.wipe();
            return x;
        });
        refused(40, wiped, "holds()", x -> x.holds(), STATE);
    }

    /** 200 signs, a permit without fault. */
    private static GroundWaters written() {
        GroundWaters x = Lands.pond();
        Lands.write(x, "!".repeat(196) + "h0>0");
        return x;
    }

    private static void plans() {
        for (Place at : List.of(SMALL, FULL_LAND)) {
            for (int v : new int[] {-1, 2000001, NONE + 1, NONE - 1, UNKNOWN, MIN, MAX}) refused(41, at, "limit(0, " + v + ")", x -> x.limit(0, v), BAD);
        }
        for (Place at : List.of(EMPTY, SMALL, FULL_LAND)) {
            for (int no : Lands.NO_NUMBERS) {
                refused(41, at, "limit(" + no + ", -1): UNKNOWN ahead of BAD", x -> x.limit(no, -1), UNKNOWN);
                refused(41, at, "limit(" + no + ", NONE)", x -> x.limit(no, NONE), UNKNOWN);
            }
        }
        Place tooHigh = Place.of("a land that no plan suits", () -> {
            GroundWaters x = Lands.small();
            x.limit(1, 2000000);
            return x;
        });
        refused(44, tooHigh, "draw(): nothing changes", x -> x.draw(), NONE);
        refused(45, tooHigh, "price(1)", x -> x.price(1), NONE);
        refused(45, tooHigh, "price(0): the other limit forbids all", x -> x.price(0), NONE);
        refused(43, tooHigh, "level(0)", x -> x.level(0), NONE);
        refused(43, tooHigh, "level(1): UNKNOWN ahead of NONE", x -> x.level(1), UNKNOWN);
    }

    private static void whatIsAskedChangesNothing() {
        for (Place at : List.of(SMALL, FULL_LAND, RESTLESS)) {
            GroundWaters x = at.make.get();
            x.price(0);
            x.price(1);
            unchanged(45, at, "price", x);
            x = at.make.get();
            x.worth();
            x.level(0);
            unchanged(43, at, "worth and level", x);
            x = at.make.get();
            x.harm(0);
            unchanged(46, at, "harm", x);
            x = at.make.get();
            x.share(1, 0);
            unchanged(47, at, "share", x);
            x = at.make.get();
            x.inWorld(0, 1);
            unchanged(34, at, "inWorld", x);
            x = at.make.get();
            x.left();
            x.next();
            x.alike(1);
            unchanged(36, at, "left, next and alike", x);
            x = at.make.get();
            x.holds();
            x.fault();
            unchanged(40, at, "holds and fault", x);
            x = at.make.get();
            x.spill(0, 100);
            x.zone(0);
            unchanged(25, at, "spill and zone", x);
        }
    }
}
