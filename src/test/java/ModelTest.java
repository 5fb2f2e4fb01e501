import java.util.ArrayList;
import java.util.List;

/** Long runs of calls, made from fixed seeds, held against the slow model of the document. */
public final class ModelTest {
    private static final int[] EDGES = {Integer.MIN_VALUE, Integer.MAX_VALUE, -1, 6, 7, 12, 100, 200, 300, -10000009, 1000001, 2000001, 9000001};

    private final Check check = new Check("ModelTest");
    private long seed;
    private GroundWaters real;
    private Model model;
    private int calls;
    private final List<String> told = new ArrayList<>();

    public static void main(String[] args) {
        int runs = args.length > 0 ? Integer.parseInt(args[0]) : 400;
        int first = args.length > 1 ? Integer.parseInt(args[1]) : 1;
        ModelTest t = new ModelTest();
        for (int i = first; i < first + runs; i++) t.run(i);
        t.check.end();
    }

    private int random(int n) {
        seed = seed * 6364136223846793005L + 1442695040888963407L;
        return (int) ((seed >>> 33) % Math.max(1, n));
    }

    private int from(int a, int b) {
        return a + random(b - a + 1);
    }

    /** a .. b, and now and then something that lies at its edges or far off. */
    private int about(int a, int b) {
        int k = random(40);
        if (k == 0) return EDGES[random(EDGES.length)];
        if (k == 1) return a - 1;
        if (k == 2) return b + 1;
        if (k == 3) return a;
        if (k == 4) return b;
        return from(a, b);
    }

    private int one(List<long[]> of) {
        return random(25) == 0 ? about(0, of.size()) : random(Math.max(1, of.size()));
    }

    private void due(String call, long got, long want) {
        told.add(call);
        calls++;
        if (got != want && check.failures() < 10) System.out.println("run: " + String.join("; ", told));
        check.due("model", call, got, want);
    }

    private void run(int number) {
        seed = number * 7919L;
        for (int i = 0; i < 5; i++) random(2);
        real = new GroundWaters();
        model = new Model();
        calls = 0;
        told.clear();
        int style = number % 5;
        build(style);
        boolean slow = model.wells.size() > 2;
        while (calls < 500) {
            int k = random(100);
            if (k < 12) change(style);
            else if (k < 30) askRest();
            else if (k < 50) askWays();
            else if (k < 60) ticks();
            else if (k < 75) worlds();
            else if (k < 80) permit();
            else if (k < 90) harm();
            else if (!slow || random(20) == 0) plans(style);
            else count();
        }
        check.due("model", "rests that have two patterns", model.restsWithTwoPatterns, 0);
    }

    private void build(int style) {
        int cells = style == 1 ? 6 : from(1, 6);
        for (int i = 0; i < cells; i++) cell(style);
        int links = style == 1 ? 12 : from(cells - 1, Math.min(12, cells + 3));
        for (int i = 0; i < links; i++) {
            int a = i + 1 < cells ? i + 1 : random(cells), b = i + 1 < cells ? random(i + 1) : random(cells);
            int e = style == 1 ? from(8, 9) : style == 3 ? 2 : from(1, 9);
            if (random(2) == 0) link(a, b, e); else link(b, a, e);
        }
        for (int i = from(style == 4 ? 0 : 1, 3); i > 0; i--) river(style);
        for (int i = from(0, 2); i > 0; i--) drain(style);
        for (int i = from(0, random(4) == 0 ? 3 : 2); i > 0; i--) well(style);
        for (int i = 0; i < model.wells.size(); i++) rate(i, random((int) model.wells.get(i)[1] + 1));
    }

    private void cell(int style) {
        int b = about(0, style == 1 ? 500 : 40), r = style == 3 ? 5 * random(2) : about(0, style == 4 ? 20 : 99), s = about(1, 9);
        due("cell(" + b + ", " + r + ", " + s + ")", real.cell(b, r, s), model.cell(b, r, s));
    }

    private void link(int a, int b, int e) {
        due("link(" + a + ", " + b + ", " + e + ")", real.link(a, b, e), model.link(a, b, e));
    }

    private void river(int style) {
        int c = one(model.cells), s = style == 1 ? about(500, 1000) : style == 3 ? 10 * from(1, 4) : about(0, 100);
        int b = style == 4 ? about(Math.max(0, s - 5), s) : about(0, Math.max(0, s)), e = style == 1 ? 9 : about(1, 9);
        due("river(" + c + ", " + s + ", " + b + ", " + e + ")", real.river(c, s, b, e), model.river(c, s, b, e));
    }

    private void drain(int style) {
        int c = one(model.cells), l = style == 1 ? about(300, 1000) : style == 3 ? 10 * from(1, 4) : about(0, 60), e = about(1, 9);
        due("drain(" + c + ", " + l + ", " + e + ")", real.drain(c, l, e), model.drain(c, l, e));
    }

    private void well(int style) {
        int c = one(model.cells), m = style == 3 ? from(0, 6) : about(0, 99), w = about(0, style == 3 ? 2 : 99);
        due("well(" + c + ", " + m + ", " + w + ")", real.well(c, m, w), model.well(c, m, w));
    }

    private void rate(int w, int v) {
        due("rate(" + w + ", " + v + ")", real.rate(w, v), model.rate(w, v));
    }

    private void change(int style) {
        int c = one(model.cells), l = one(model.links), r = one(model.rivers), w = one(model.wells), v;
        switch (random(random(6) == 0 ? 9 : 4)) {
            case 0: v = about(0, 99); due("rain(" + c + ", " + v + ")", real.rain(c, v), model.rain(c, v)); break;
            case 1: v = about(1, 9); due("ease(" + l + ", " + v + ")", real.ease(l, v), model.ease(l, v)); break;
            case 2: rate(w, about(0, w >= 0 && w < model.wells.size() ? (int) model.wells.get(w)[1] : 3)); break;
            case 3: v = about(0, style == 1 ? 1000 : 120); due("stage(" + r + ", " + v + ")", real.stage(r, v), model.stage(r, v)); break;
            case 4: if (model.cells.size() < 6 && random(3) > 0) break; cell(style); break;
            case 5: link(one(model.cells), one(model.cells), about(1, 9)); break;
            case 6: river(style); break;
            case 7: drain(style); break;
            default: well(style); break;
        }
    }

    private void askRest() {
        int c = one(model.cells), l = one(model.links), r = one(model.rivers), d = one(model.drains);
        boolean up = random(2) == 0;
        switch (random(9)) {
            case 0: due("pattern()", real.pattern(), model.pattern()); break;
            case 1: due("head(" + c + ", " + up + ")", real.head(c, up), model.head(c, up)); break;
            case 2: due("milli(" + c + ")", real.milli(c), model.milli(c)); break;
            case 3: due("flow(" + l + ")", real.flow(l), model.flow(l)); break;
            case 4: due("gives(" + r + ")", real.gives(r), model.gives(r)); break;
            case 5: due("takes(" + d + ")", real.takes(d), model.takes(d)); break;
            case 6: due("dry(" + c + ")", real.dry(c), model.dry(c)); break;
            case 7: due("salt(" + c + ")", real.salt(c), model.salt(c)); break;
            default: due("through(" + up + ")", real.through(up), model.through(up)); break;
        }
    }

    private void askWays() {
        int c = one(model.cells), w = one(model.wells), i = about(0, 5);
        int[] ends = {random(6), 100 + random(3), 200 + random(2), 300 + random(3), about(0, 303)};
        int end = ends[random(5)];
        boolean up = random(2) == 0;
        switch (random(7)) {
            case 0: due("way(" + c + ", " + i + ")", real.way(c, i), model.way(c, i)); break;
            case 1: due("end(" + c + ")", real.end(c), model.end(c)); break;
            case 2: due("time(" + c + ", " + up + ")", real.time(c, up), model.time(c, up)); break;
            case 3: due("wayTime(" + c + ")", real.wayTime(c), model.wayTime(c)); break;
            case 4: due("zone(" + w + ")", real.zone(w), model.zone(w)); break;
            default: due("spill(" + c + ", " + end + ")", real.spill(c, end), model.spill(c, end)); break;
        }
    }

    private void ticks() {
        int c = one(model.cells), n, b = about(0, 5);
        switch (random(6)) {
            case 0:
                n = random(3) == 0 ? about(999000, 1000000) : about(0, 5000);
                due("pour(" + c + ", " + n + ")", real.pour(c, n), model.pour(c, n));
                break;
            case 1: due("cups(" + c + ")", real.cups(c), model.cups(c)); break;
            case 2: due("mark(" + c + ")", real.mark(c), model.mark(c)); break;
            case 3: n = about(1, random(2) == 0 ? 3 : 100); due("tick(" + n + ")", real.tick(n), model.tick(n)); break;
            default: due("book(" + b + ")", real.book(b), model.book(b)); break;
        }
    }

    private void worlds() {
        int c = one(model.cells), l = one(model.links), w = one(model.worlds), e = about(1, 9);
        switch (random(7)) {
            case 0: due("world(" + l + ", " + e + ")", real.world(l, e), model.world(l, e)); break;
            case 1: {
                long near = model.milli(c);
                int m = near > -9000000 && random(4) > 0 ? (int) near + from(-800, 800) : about(-9000000, 9000000);
                int g = random(3) == 0 ? -1 : random(3) == 0 ? about(0, 100000) : about(0, 2000);
                due("see(" + c + ", " + m + ", " + g + ")", real.see(c, m, g), model.see(c, m, g));
                break;
            }
            case 2: due("left()", real.left(), model.left()); break;
            case 3: due("inWorld(" + w + ", " + c + ")", real.inWorld(w, c), model.inWorld(w, c)); break;
            case 4: due("next()", real.next(), model.next()); break;
            default: due("alike(" + c + ")", real.alike(c), model.alike(c)); break;
        }
    }

    private void text(StringBuilder b, int depth) {
        int k = random(depth > 0 ? 8 : 3);
        if (k < 3) {
            char letter = "hqgdf".charAt(random(5));
            List<long[]> those = letter == 'h' ? model.cells : letter == 'q' ? model.wells : letter == 'g' ? model.rivers : letter == 'd' ? model.drains : model.links;
            if (those.isEmpty()) { letter = 'h'; those = model.cells; }
            int n = random(Math.min(10, those.size()));
            long near = letter == 'h' ? model.milli(n) : letter == 'q' ? model.wells.get(n)[3] : letter == 'g' ? model.gives(n) : letter == 'd' ? model.takes(n) : model.flow(n);
            long asked = near < -9999999 || random(4) == 0 ? from(-50000, 50000) : near + from(-1, 1);
            b.append(letter).append(n).append("<>=".charAt(random(3))).append(asked);
        } else if (k == 3) {
            b.append('!');
            text(b, depth - 1);
        } else if (k == 4) {
            b.append('(');
            text(b, depth - 1);
            b.append(')');
        } else {
            text(b, depth - 1);
            b.append(random(2) == 0 ? '&' : '|');
            text(b, depth - 1);
        }
    }

    private void permit() {
        if (random(3) == 0) {
            int s = about(32, 126);
            due("sign(" + s + ")", real.sign(s), model.sign(s));
        } else {
            due("wipe()", real.wipe(), model.wipe());
            StringBuilder b = new StringBuilder();
            if (model.cells.size() > 0) text(b, 4);
            if (random(3) == 0 && b.length() > 0) b.setCharAt(random(b.length()), "!&|()<>=-0129hqgdfx ".charAt(random(20)));
            if (random(6) == 0) b.setLength(random(b.length() + 1));
            // built up in one go: the calls count, but each one is compared
            for (int i = 0; i < b.length() && i < 60; i++) due("sign(" + (int) b.charAt(i) + ")", real.sign(b.charAt(i)), model.sign(b.charAt(i)));
        }
        due("fault()", real.fault(), model.fault());
        due("holds()", real.holds(), model.holds());
    }

    private void harm() {
        int c = one(model.cells), w = one(model.wells);
        if (random(2) == 0) due("harm(" + c + ")", real.harm(c), model.harm(c));
        else due("share(" + c + ", " + w + ")", real.share(c, w), model.share(c, w));
    }

    private void plans(int style) {
        int c = one(model.cells), w = one(model.wells);
        switch (random(8)) {
            case 0: case 1: case 2: {
                long near = model.milli(c);
                int m = random(3) == 0 ? -10000009 : near > -9000000 && random(3) > 0 ? Math.max(0, (int) near + from(-3000, 3000)) : about(0, 2000000);
                due("limit(" + c + ", " + m + ")", real.limit(c, m), model.limit(c, m));
                break;
            }
            case 3: due("worth()", real.worth(), model.worth()); break;
            case 4: due("level(" + w + ")", real.level(w), model.level(w)); break;
            case 5: due("draw()", real.draw(), model.draw()); break;
            default: due("price(" + c + ")", real.price(c), model.price(c)); break;
        }
    }

    private void count() {
        int what = about(0, 8);
        due("count(" + what + ")", real.count(what), model.count(what));
    }
}
