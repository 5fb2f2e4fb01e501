import java.util.ArrayList;
import java.util.List;

/** Lands that several tests use, and a look at all that an object tells. */
final class Lands {
    static final int UNKNOWN = -10000001, BAD = -10000002, STATE = -10000003, FULL = -10000004, NONE = -10000009;
    static final int MIN = Integer.MIN_VALUE, MAX = Integer.MAX_VALUE;
    /** Numbers that nothing of a land bears. */
    static final int[] NO_NUMBERS = {-1, 12, 100, MAX, MIN};

    private Lands() {
    }

    static void write(GroundWaters x, String text) {
        x.wipe();
        for (int i = 0; i < text.length(); i++) x.sign(text.charAt(i));
    }

    /** One cell with a river of ease 1 at a stage of 100, its bed at 0: its head is 100 less all rates. */
    static GroundWaters pond() {
        GroundWaters x = new GroundWaters();
        x.cell(0, 0, 1);
        x.river(0, 100, 0, 1);
        return x;
    }

    /** One of each kind and one cell more: nothing is full. */
    static GroundWaters small() {
        GroundWaters x = new GroundWaters();
        x.cell(10, 7, 2);
        x.cell(0, 0, 3);
        x.link(0, 1, 2);
        x.river(1, 40, 20, 3);
        x.drain(0, 41, 1);
        x.well(0, 9, 4);
        x.rate(0, 3);
        x.world(0, 5);
        x.see(1, 41000, 1500);
        x.limit(0, 30000);
        x.pour(0, 500);
        x.pour(1, 77);
        x.tick(2);
        write(x, "h0>30000&q0<9");
        return x;
    }

    /** As many of each kind as there may be, but for signs. */
    static GroundWaters full() {
        GroundWaters x = new GroundWaters();
        for (int i = 0; i < 6; i++) x.cell(5 * i, 3 + i, 1 + i);
        for (int i = 0; i < 12; i++) x.link(i % 6, (i + 1 + i / 6) % 6, 1 + i % 9);
        x.river(0, 60, 20, 3);
        x.river(2, 55, 50, 2);
        x.river(4, 70, 69, 9);
        x.drain(1, 58, 4);
        x.drain(5, 64, 2);
        x.well(1, 30, 4);
        x.well(3, 21, 5);
        x.well(5, 9, 9);
        for (int w = 0; w < 3; w++) x.rate(w, 4 + w);
        for (int i = 0; i < 5; i++) x.world(2 * i, 9 - i);
        x.see(2, 57000, 5000);
        x.limit(3, 52000);
        for (int c = 0; c < 6; c++) x.pour(c, 100 * c + 7);
        x.tick(3);
        write(x, "!(h1<1|f9>99999)&q2>-1");
        return x;
    }

    /** All that an object tells; the last calls change it, so that rows without a reader of their own are seen too. */
    static List<String> look(GroundWaters x) {
        List<String> told = new ArrayList<>();
        for (int what = 0; what <= 8; what++) put(told, "count " + what, x.count(what));
        put(told, "pattern", x.pattern());
        put(told, "through", x.through(true), x.through(false));
        put(told, "left, next", x.left(), x.next());
        put(told, "fault, holds, worth", x.fault(), x.holds(), x.worth());
        for (int c = 0; c < x.count(0); c++) lookAtCell(told, x, c);
        for (int l = 0; l < x.count(1); l++) put(told, "flow " + l, x.flow(l));
        for (int r = 0; r < x.count(2); r++) put(told, "gives " + r, x.gives(r));
        for (int d = 0; d < x.count(3); d++) put(told, "takes " + d, x.takes(d));
        for (int w = 0; w < x.count(4); w++) put(told, "zone, level, share " + w, x.zone(w), x.level(w), x.share(0, w));
        for (int b = 0; b < 6; b++) put(told, "book " + b, x.book(b));
        lookByChanges(told, x);
        return told;
    }

    private static void lookAtCell(List<String> told, GroundWaters x, int c) {
        put(told, "head " + c, x.head(c, true), x.head(c, false));
        put(told, "milli, dry, salt " + c, x.milli(c), x.dry(c), x.salt(c));
        put(told, "way, end " + c, x.way(c, 1), x.end(c));
        put(told, "time, wayTime " + c, x.time(c, true), x.time(c, false), x.wayTime(c));
        put(told, "spill " + c, x.spill(c, 100), x.spill(c, 200), x.spill(c, 300), x.spill(c, c));
        put(told, "cups, mark " + c, x.cups(c), x.mark(c));
        put(told, "alike, price, harm " + c, x.alike(c), x.price(c), x.harm(c));
        for (int w = 0; w < x.count(5); w++) put(told, "inWorld " + w + ", " + c, x.inWorld(w, c));
    }

    private static void lookByChanges(List<String> told, GroundWaters x) {
        put(told, "tick", x.tick(1));
        for (int c = 0; c < x.count(0); c++) put(told, "pour, limit, rain " + c, x.pour(c, 0), x.limit(c, NONE), x.rain(c, 0));
        for (int l = 0; l < x.count(1); l++) put(told, "ease " + l, x.ease(l, 1));
        for (int r = 0; r < x.count(2); r++) put(told, "stage " + r, x.stage(r, 1000));
        for (int w = 0; w < x.count(4); w++) put(told, "rate " + w, x.rate(w, 0));
        put(told, "wipe", x.wipe());
    }

    private static void put(List<String> told, String what, long... answers) {
        StringBuilder b = new StringBuilder(what).append(':');
        for (long a : answers) b.append(' ').append(a);
        told.add(b.toString());
    }
}
