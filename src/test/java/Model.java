import java.math.BigInteger;
import java.util.ArrayList;
import java.util.Comparator;
import java.util.HashMap;
import java.util.List;
import java.util.Map;

/**
 * The document once more, as literally and slowly as it reads, with fractions
 * of BigIntegers: what the class answers is held against this.
 */
final class Model {
    static final long UNKNOWN = -10000001, BAD = -10000002, STATE = -10000003, FULL = -10000004, NONE = -10000009;

    /** A fraction in least terms. */
    record Part(BigInteger above, BigInteger below) implements Comparable<Part> {
        static Part of(long n) { return new Part(BigInteger.valueOf(n), BigInteger.ONE); }
        static Part of(BigInteger a, BigInteger b) {
            if (b.signum() < 0) { a = a.negate(); b = b.negate(); }
            BigInteger g = a.gcd(b);
            return g.equals(BigInteger.ONE) ? new Part(a, b) : new Part(a.divide(g), b.divide(g));
        }
        Part plus(Part o) { return of(above.multiply(o.below).add(o.above.multiply(below)), below.multiply(o.below)); }
        Part minus(Part o) { return plus(new Part(o.above.negate(), o.below)); }
        Part times(Part o) { return of(above.multiply(o.above), below.multiply(o.below)); }
        Part by(Part o) { return of(above.multiply(o.below), below.multiply(o.above)); }
        int sign() { return above.signum(); }
        @Override public int compareTo(Part o) { return minus(o).sign(); }
        BigInteger floor() {
            BigInteger[] q = above.divideAndRemainder(below);
            return q[1].signum() < 0 ? q[0].subtract(BigInteger.ONE) : q[0];
        }
        long milli() { return times(of(1000)).floor().longValueExact(); }
        long side(boolean upper) { return (upper ? above : below).longValueExact(); }
    }

    record Outlet(int to, Part flow) { }

    record Rest(int pattern, Part[] heads) { }

    final List<long[]> cells = new ArrayList<>();   // bottom, rain, store, cups, limit, seen, give
    final List<long[]> links = new ArrayList<>();   // a, b, ease
    final List<long[]> rivers = new ArrayList<>();  // cell, stage, bed, ease
    final List<long[]> drains = new ArrayList<>();  // cell, level, ease
    final List<long[]> wells = new ArrayList<>();   // cell, cap, worth, rate
    final List<long[]> worlds = new ArrayList<>();  // link, ease
    final StringBuilder permit = new StringBuilder();
    final long[] books = new long[6];
    int restsWithTwoPatterns = 0;
    private final Map<String, Rest> rests = new HashMap<>();

    private static boolean in(long v, long a, long b) { return a <= v && v <= b; }
    private static boolean has(List<long[]> l, int i) { return i >= 0 && i < l.size(); }

    // ---- the land

    long cell(int bottom, int rain, int store) {
        if (!in(bottom, 0, 500) || !in(rain, 0, 99) || !in(store, 1, 9)) return BAD;
        if (cells.size() == 6) return FULL;
        cells.add(new long[] {bottom, rain, store, 0, NONE, 0, -1});
        return cells.size() - 1;
    }
    long link(int a, int b, int ease) {
        if (!has(cells, a) || !has(cells, b)) return UNKNOWN;
        if (!in(ease, 1, 9)) return BAD;
        if (a == b) return STATE;
        if (links.size() == 12) return FULL;
        links.add(new long[] {a, b, ease});
        return links.size() - 1;
    }
    long river(int cell, int stage, int bed, int ease) {
        if (!has(cells, cell)) return UNKNOWN;
        if (!in(stage, 0, 1000) || !in(bed, 0, stage) || !in(ease, 1, 9)) return BAD;
        if (rivers.size() == 3) return FULL;
        rivers.add(new long[] {cell, stage, bed, ease});
        return rivers.size() - 1;
    }
    long drain(int cell, int level, int ease) {
        if (!has(cells, cell)) return UNKNOWN;
        if (!in(level, 0, 1000) || !in(ease, 1, 9)) return BAD;
        if (drains.size() == 2) return FULL;
        drains.add(new long[] {cell, level, ease});
        return drains.size() - 1;
    }
    long well(int cell, int cap, int worth) {
        if (!has(cells, cell)) return UNKNOWN;
        if (!in(cap, 0, 99) || !in(worth, 0, 99)) return BAD;
        if (wells.size() == 3) return FULL;
        wells.add(new long[] {cell, cap, worth, 0});
        return wells.size() - 1;
    }
    private static long set(long[] row, int i, long v) { long was = row[i]; row[i] = v; return was; }
    long rain(int cell, int v) {
        if (!has(cells, cell)) return UNKNOWN;
        return in(v, 0, 99) ? set(cells.get(cell), 1, v) : BAD;
    }
    long ease(int link, int v) {
        if (!has(links, link)) return UNKNOWN;
        return in(v, 1, 9) ? set(links.get(link), 2, v) : BAD;
    }
    long rate(int well, int v) {
        if (!has(wells, well)) return UNKNOWN;
        return in(v, 0, wells.get(well)[1]) ? set(wells.get(well), 3, v) : BAD;
    }
    long stage(int river, int v) {
        if (!has(rivers, river)) return UNKNOWN;
        return in(v, rivers.get(river)[2], 1000) ? set(rivers.get(river), 1, v) : BAD;
    }

    // ---- the rest

    private String landKey() {
        StringBuilder b = new StringBuilder();
        for (long[] c : cells) b.append(c[0]).append(',').append(c[1]).append(';');
        for (List<long[]> l : List.of(links, rivers, drains, wells)) {
            b.append('/');
            for (long[] r : l) for (long v : r) b.append(v).append(',');
        }
        return b.toString();
    }

    Rest rest() {
        return rests.computeIfAbsent(landKey(), k -> findRest());
    }

    private Rest findRest() {
        if (cells.isEmpty()) return null;
        Rest first = null;
        for (int p = 0; p < 32; p++) {
            if (p >> 3 >= 1 << drains.size() || (p & 7) >= 1 << rivers.size()) continue;
            Part[] h = solve(p);
            if (h == null || patternOf(h) != p) continue;
            if (first == null) first = new Rest(p, h);
            else restsWithTwoPatterns++;
        }
        return first == null ? new Rest(-1, null) : first;
    }

    private boolean none() { Rest r = rest(); return r == null || r.heads == null; }

    private int patternOf(Part[] h) {
        int p = 0;
        for (int r = 0; r < rivers.size(); r++) {
            if (h[(int) rivers.get(r)[0]].compareTo(Part.of(rivers.get(r)[2])) >= 0) p |= 1 << r;
        }
        for (int d = 0; d < drains.size(); d++) {
            if (h[(int) drains.get(d)[0]].compareTo(Part.of(drains.get(d)[1])) > 0) p |= 8 << d;
        }
        return p;
    }

    private Part[] solve(int p) {
        int n = cells.size();
        long[][] a = new long[n][n + 1];
        for (int c = 0; c < n; c++) a[c][n] = cells.get(c)[1];
        for (long[] l : links) {
            int x = (int) l[0], y = (int) l[1];
            a[x][x] += l[2]; a[x][y] -= l[2];
            a[y][y] += l[2]; a[y][x] -= l[2];
        }
        for (int r = 0; r < rivers.size(); r++) {
            long[] v = rivers.get(r);
            int c = (int) v[0];
            if ((p >> r & 1) == 1) { a[c][c] += v[3]; a[c][n] += v[3] * v[1]; }
            else a[c][n] += v[3] * (v[1] - v[2]);
        }
        for (int d = 0; d < drains.size(); d++) {
            long[] v = drains.get(d);
            int c = (int) v[0];
            if ((p >> 3 + d & 1) == 1) { a[c][c] += v[2]; a[c][n] += v[2] * v[1]; }
        }
        for (long[] w : wells) a[(int) w[0]][n] -= w[3];
        Part[][] m = new Part[n][n + 1];
        for (int i = 0; i < n; i++) for (int j = 0; j <= n; j++) m[i][j] = Part.of(a[i][j]);
        return gauss(m, n);
    }

    private static Part[] gauss(Part[][] m, int n) {
        for (int k = 0; k < n; k++) {
            int best = -1;
            for (int i = k; i < n && best < 0; i++) if (m[i][k].sign() != 0) best = i;
            if (best < 0) return null;
            Part[] t = m[k]; m[k] = m[best]; m[best] = t;
            for (int i = 0; i < n; i++) {
                if (i == k || m[i][k].sign() == 0) continue;
                Part f = m[i][k].by(m[k][k]);
                for (int j = k; j <= n; j++) m[i][j] = m[i][j].minus(f.times(m[k][j]));
            }
        }
        Part[] h = new Part[n];
        for (int i = 0; i < n; i++) h[i] = m[i][n].by(m[i][i]);
        return h;
    }

    private Part linkFlow(int l) {
        long[] v = links.get(l);
        Part[] h = rest().heads;
        return Part.of(v[2]).times(h[(int) v[0]].minus(h[(int) v[1]]));
    }
    private Part riverGives(int r) {
        long[] v = rivers.get(r);
        Part h = rest().heads[(int) v[0]];
        Part felt = h.compareTo(Part.of(v[2])) >= 0 ? h : Part.of(v[2]);
        return Part.of(v[3]).times(Part.of(v[1]).minus(felt));
    }
    private Part drainTakes(int d) {
        long[] v = drains.get(d);
        Part above = rest().heads[(int) v[0]].minus(Part.of(v[1]));
        return above.sign() > 0 ? Part.of(v[2]).times(above) : Part.of(0);
    }

    long pattern() { return none() ? NONE : rest().pattern; }
    long head(int c, boolean upper) {
        if (!has(cells, c)) return UNKNOWN;
        return none() ? STATE : rest().heads[c].side(upper);
    }
    long milli(int c) {
        if (!has(cells, c)) return UNKNOWN;
        return none() ? STATE : rest().heads[c].milli();
    }
    long flow(int l) {
        if (!has(links, l)) return UNKNOWN;
        return none() ? STATE : linkFlow(l).milli();
    }
    long gives(int r) {
        if (!has(rivers, r)) return UNKNOWN;
        return none() ? STATE : riverGives(r).milli();
    }
    long takes(int d) {
        if (!has(drains, d)) return UNKNOWN;
        return none() ? STATE : drainTakes(d).milli();
    }
    private boolean isDry(int c) { return rest().heads[c].compareTo(Part.of(cells.get(c)[0])) < 0; }
    long dry(int c) {
        if (!has(cells, c)) return UNKNOWN;
        return none() ? STATE : isDry(c) ? 1 : 0;
    }
    long salt(int c) {
        if (!has(cells, c)) return UNKNOWN;
        return none() ? STATE : Part.of(0).minus(Part.of(40).times(rest().heads[c])).milli();
    }
    long through(boolean upper) {
        if (none()) return STATE;
        Part sum = Part.of(0);
        for (long[] c : cells) sum = sum.plus(Part.of(c[1]));
        for (int r = 0; r < rivers.size(); r++) if (riverGives(r).sign() > 0) sum = sum.plus(riverGives(r));
        // "it leaves again by RIVERS that take, DRAINS, WELLS"
        Part out = Part.of(0);
        for (int r = 0; r < rivers.size(); r++) if (riverGives(r).sign() < 0) out = out.minus(riverGives(r));
        for (int d = 0; d < drains.size(); d++) out = out.plus(drainTakes(d));
        for (long[] w : wells) out = out.plus(Part.of(w[3]));
        if (out.compareTo(sum) != 0) throw new IllegalStateException("what comes does not leave");
        return sum.side(upper);
    }

    // ---- ways, zones, spills

    private List<Outlet> outlets(int c) {
        List<Outlet> all = new ArrayList<>();
        for (int l = 0; l < links.size(); l++) {
            long[] v = links.get(l);
            Part f = linkFlow(l);
            if (v[0] == c && f.sign() > 0) all.add(new Outlet((int) v[1], f));
            if (v[1] == c && f.sign() < 0) all.add(new Outlet((int) v[0], Part.of(0).minus(f)));
        }
        for (int r = 0; r < rivers.size(); r++) {
            if (rivers.get(r)[0] == c && rest().heads[c].compareTo(Part.of(rivers.get(r)[1])) > 0) {
                all.add(new Outlet(100 + r, Part.of(0).minus(riverGives(r))));
            }
        }
        for (int d = 0; d < drains.size(); d++) {
            if (drains.get(d)[0] == c && drainTakes(d).sign() > 0) all.add(new Outlet(200 + d, drainTakes(d)));
        }
        for (int w = 0; w < wells.size(); w++) {
            if (wells.get(w)[0] == c && wells.get(w)[3] > 0) all.add(new Outlet(300 + w, Part.of(wells.get(w)[3])));
        }
        return all;
    }
    private static Outlet greatest(List<Outlet> all) {
        Outlet best = null;
        for (Outlet o : all) if (best == null || o.flow.compareTo(best.flow) > 0) best = o;
        return best;
    }
    /** The cells of the way, and behind them the end or NONE. */
    private List<Integer> fullWay(int c) {
        List<Integer> way = new ArrayList<>();
        while (true) {
            way.add(c);
            Outlet o = greatest(outlets(c));
            if (o == null) { way.add((int) NONE); return way; }
            if (o.to >= 100) { way.add(o.to); return way; }
            c = o.to;
        }
    }
    long way(int c, int i) {
        if (!has(cells, c)) return UNKNOWN;
        if (none()) return STATE;
        List<Integer> w = fullWay(c);
        return i >= 0 && i < w.size() - 1 ? w.get(i) : NONE;
    }
    long end(int c) {
        if (!has(cells, c)) return UNKNOWN;
        if (none()) return STATE;
        List<Integer> w = fullWay(c);
        return w.get(w.size() - 1);
    }
    private Part timeOf(int c) {
        Part sum = Part.of(0);
        for (Outlet o : outlets(c)) sum = sum.plus(o.flow);
        if (sum.sign() == 0) return null;
        Part water = isDry(c) ? Part.of(0) : rest().heads[c].minus(Part.of(cells.get(c)[0])).times(Part.of(cells.get(c)[2]));
        return water.by(sum);
    }
    long time(int c, boolean upper) {
        if (!has(cells, c)) return UNKNOWN;
        if (none()) return STATE;
        Part t = timeOf(c);
        return t == null ? NONE : t.side(upper);
    }
    long wayTime(int c) {
        if (!has(cells, c)) return UNKNOWN;
        if (none()) return STATE;
        long sum = 0;
        List<Integer> w = fullWay(c);
        for (int i = 0; i < w.size() - 1; i++) if (timeOf(w.get(i)) != null) sum += timeOf(w.get(i)).milli();
        return sum;
    }
    private boolean reaches(int c, int end) {
        for (Outlet o : outlets(c)) if (o.to == end || o.to < 100 && reaches(o.to, end)) return true;
        return false;
    }
    long zone(int well) {
        if (!has(wells, well)) return UNKNOWN;
        if (none()) return STATE;
        long set = 0;
        for (int c = 0; c < cells.size(); c++) if (reaches(c, 300 + well)) set |= 1L << c;
        return set;
    }
    long spill(int c, int end) {
        if (!has(cells, c)) return UNKNOWN;
        boolean there = has(cells, end) || end >= 100 && end < 100 + rivers.size()
            || end >= 200 && end < 200 + drains.size() || end >= 300 && end < 300 + wells.size();
        if (!there) return UNKNOWN;
        if (none()) return STATE;
        List<Integer> order = new ArrayList<>();
        for (int i = 0; i < cells.size(); i++) order.add(i);
        Part[] h = rest().heads;
        order.sort((x, y) -> h[x].compareTo(h[y]) != 0 ? h[y].compareTo(h[x]) : x - y);
        Map<Integer, Long> parts = new HashMap<>();
        parts.put(c, 1000000L);
        for (int at : order) {
            List<Outlet> all = outlets(at);
            long much = parts.getOrDefault(at, 0L), gone = 0;
            if (all.isEmpty()) continue;
            Part sum = Part.of(0);
            for (Outlet o : all) sum = sum.plus(o.flow);
            for (Outlet o : all) {
                long share = Part.of(much).times(o.flow).by(sum).floor().longValueExact();
                parts.merge(o.to, share, Long::sum);
                gone += share;
            }
            parts.merge(greatest(all).to, much - gone, Long::sum);
            parts.put(at, 0L);
        }
        return parts.getOrDefault(end, 0L);
    }

    // ---- by ticks

    long pour(int c, int cups) {
        if (!has(cells, c)) return UNKNOWN;
        if (!in(cups, 0, 1000000)) return BAD;
        java.util.Arrays.fill(books, 0);
        return set(cells.get(c), 3, cups);
    }
    long cups(int c) { return has(cells, c) ? cells.get(c)[3] : UNKNOWN; }
    long mark(int c) { return has(cells, c) ? cells.get(c)[3] / cells.get(c)[2] + cells.get(c)[0] : UNKNOWN; }
    private void come(int c, long much) {
        long[] v = cells.get(c);
        v[3] += much;
        if (v[3] > 1000000) { books[5] += v[3] - 1000000; v[3] = 1000000; }
    }
    private long go(int c, long much) {
        long[] v = cells.get(c);
        long gone = Math.min(much, v[3]);
        v[3] -= gone;
        return gone;
    }
    long tick(int n) {
        if (!in(n, 1, 100)) return BAD;
        for (int i = 0; i < n; i++) {
            long[] m = new long[cells.size()];
            for (int c = 0; c < m.length; c++) m[c] = mark(c);
            for (int c = 0; c < m.length; c++) { books[0] += cells.get(c)[1]; come(c, cells.get(c)[1]); }
            for (long[] r : rivers) {
                int c = (int) r[0];
                long g = r[3] * (r[1] - (m[c] < r[2] ? r[2] : m[c])) / 100;
                if (g >= 0) { books[1] += g; come(c, g); } else books[2] += go(c, -g);
            }
            for (long[] l : links) {
                int a = (int) l[0], b = (int) l[1];
                long f = l[2] * (m[a] - m[b]) / 100;
                if (f >= 0) come(b, go(a, f)); else come(a, go(b, -f));
            }
            for (long[] d : drains) {
                long t = d[2] * (m[(int) d[0]] - d[1]) / 100;
                if (t > 0) books[3] += go((int) d[0], t);
            }
            for (long[] w : wells) books[4] += go((int) w[0], w[3]);
        }
        long sum = 0;
        for (long[] c : cells) sum += c[3];
        return sum;
    }
    long book(int what) { return in(what, 0, 5) ? books[what] : BAD; }

    // ---- worlds

    long world(int link, int ease) {
        if (!has(links, link)) return UNKNOWN;
        if (!in(ease, 1, 9)) return BAD;
        if (worlds.size() == 5) return FULL;
        worlds.add(new long[] {link, ease});
        return worlds.size() - 1;
    }
    long see(int c, int milli, int give) {
        if (!has(cells, c)) return UNKNOWN;
        if (!in(milli, -9000000, 9000000) || give > 100000) return BAD;
        cells.get(c)[5] = milli;
        cells.get(c)[6] = give < 0 ? -1 : give;
        return give < 0 ? 0 : 1;
    }
    /** The millis of all cells in a world; null: it has no rest. */
    private long[] millisIn(int w) {
        long[] l = links.get((int) worlds.get(w)[0]);
        long was = set(l, 2, worlds.get(w)[1]);
        long[] m = null;
        if (!none()) {
            m = new long[cells.size()];
            for (int c = 0; c < m.length; c++) m[c] = rest().heads[c].milli();
        }
        l[2] = was;
        return m;
    }
    long left() {
        long set = 0;
        for (int w = 0; w < worlds.size(); w++) {
            long[] m = millisIn(w);
            boolean ok = m != null;
            for (int c = 0; ok && c < m.length; c++) {
                long[] v = cells.get(c);
                if (v[6] >= 0 && Math.abs(m[c] - v[5]) > v[6]) ok = false;
            }
            if (ok) set |= 1L << w;
        }
        return set;
    }
    long inWorld(int w, int c) {
        if (!has(worlds, w) || !has(cells, c)) return UNKNOWN;
        long[] m = millisIn(w);
        return m == null ? STATE : m[c];
    }
    long alike(int c) {
        if (!has(cells, c)) return UNKNOWN;
        Map<Long, Integer> like = new HashMap<>();
        long set = left();
        for (int w = 0; w < worlds.size(); w++) if ((set >> w & 1) == 1) like.merge(millisIn(w)[c], 1, Integer::sum);
        return like.values().stream().max(Comparator.naturalOrder()).orElse(0);
    }
    long next() {
        if (left() == 0) return NONE;
        long best = NONE;
        for (int c = 0; c < cells.size(); c++) {
            if (cells.get(c)[6] < 0 && (best == NONE || alike(c) < alike((int) best))) best = c;
        }
        return best;
    }

    // ---- permits: by recursion, as the grammar reads

    private static final class Fault extends RuntimeException {
        private static final long serialVersionUID = 1;
        final int at;
        Fault(int at) { super(null, null, false, false); this.at = at; }
    }
    private int at;
    private boolean valued;
    private char peek() { return at < permit.length() ? permit.charAt(at) : 0; }
    private char need(String signs) {
        char c = peek();
        if (c == 0 || signs.indexOf(c) < 0) throw new Fault(at);
        at++;
        return c;
    }
    private boolean any() {
        boolean v = all();
        if (peek() != '|') return v;
        at++;
        boolean w = any();
        return v || w;
    }
    private boolean all() {
        boolean v = one();
        if (peek() != '&') return v;
        at++;
        boolean w = all();
        return v && w;
    }
    private boolean one() {
        char c = need("!(hqgdf");
        if (c == '!') return !one();
        if (c == '(') {
            boolean v = any();
            if (peek() != ')') throw new Fault(at);
            at++;
            return v;
        }
        int digitAt = at;
        int number = need("0123456789") - '0';
        List<long[]> those = c == 'h' ? cells : c == 'q' ? wells : c == 'g' ? rivers : c == 'd' ? drains : links;
        if (number >= those.size()) throw new Fault(digitAt);
        char op = need("<>=");
        StringBuilder b = new StringBuilder();
        if (peek() == '-') { b.append('-'); at++; }
        b.append(need("0123456789"));
        for (int k = 1; k < 7 && peek() >= '0' && peek() <= '9'; k++) b.append(need("0123456789"));
        if (!valued) return false;
        long v = c == 'h' ? milli(number) : c == 'q' ? wells.get(number)[3] : c == 'g' ? gives(number) : c == 'd' ? takes(number) : flow(number);
        long asked = Long.parseLong(b.toString());
        return op == '<' ? v < asked : op == '>' ? v > asked : v == asked;
    }
    private boolean read(boolean withValues) {
        at = 0;
        valued = withValues;
        boolean v = any();
        if (at < permit.length()) throw new Fault(at);
        return v;
    }
    long sign(int s) {
        if (!in(s, 32, 126)) return BAD;
        if (permit.length() == 200) return FULL;
        return permit.append((char) s).length();
    }
    long wipe() { long n = permit.length(); permit.setLength(0); return n; }
    long fault() {
        if (permit.length() == 0) return NONE;
        try { read(false); return NONE; } catch (Fault f) { return f.at; }
    }
    long holds() {
        if (permit.length() == 0 || fault() != NONE || none()) return STATE;
        return read(true) ? 1 : 0;
    }

    // ---- plans, harm

    long limit(int c, int milli) {
        if (!has(cells, c)) return UNKNOWN;
        return milli == NONE || in(milli, 0, 2000000) ? set(cells.get(c), 4, milli) : BAD;
    }
    record Plan(long worth, long rates, int[] levels) { }
    private boolean mayBe(boolean asks) {
        if (none()) return false;
        for (int c = 0; c < cells.size(); c++) {
            if (isDry(c) || cells.get(c)[4] != NONE && milli(c) < cells.get(c)[4]) return false;
        }
        return !asks || holds() == 1;
    }
    private void plan(int w, int[] levels, List<Plan> all, boolean asks) {
        if (w < wells.size()) {
            for (int v = 0; v <= 4; v++) {
                levels[w] = v;
                wells.get(w)[3] = wells.get(w)[1] * v / 4;
                plan(w + 1, levels, all, asks);
            }
            return;
        }
        if (!mayBe(asks)) return;
        long worth = 0, sum = 0;
        for (long[] v : wells) { worth += v[2] * v[3]; sum += v[3]; }
        all.add(new Plan(worth, sum, levels.clone()));
    }
    private Plan best() {
        long[] were = wells.stream().mapToLong(w -> w[3]).toArray();
        List<Plan> all = new ArrayList<>();
        plan(0, new int[wells.size()], all, permit.length() > 0 && fault() == NONE);
        for (int w = 0; w < were.length; w++) wells.get(w)[3] = were[w];
        all.sort((x, y) -> x.worth != y.worth ? Long.compare(y.worth, x.worth)
            : x.rates != y.rates ? Long.compare(x.rates, y.rates) : java.util.Arrays.compare(x.levels, y.levels));
        return all.isEmpty() ? null : all.get(0);
    }
    long worth() { Plan p = best(); return p == null ? NONE : p.worth; }
    long level(int w) {
        if (!has(wells, w)) return UNKNOWN;
        Plan p = best();
        return p == null ? NONE : p.levels[w];
    }
    long draw() {
        Plan p = best();
        if (p == null) return NONE;
        for (int w = 0; w < wells.size(); w++) wells.get(w)[3] = wells.get(w)[1] * p.levels[w] / 4;
        return p.worth;
    }
    long price(int c) {
        if (!has(cells, c)) return UNKNOWN;
        if (cells.get(c)[4] == NONE) return 0;
        long with = worth();
        if (with == NONE) return NONE;
        long was = set(cells.get(c), 4, NONE);
        long without = worth();
        cells.get(c)[4] = was;
        return without - with;
    }
    private long milliWith(int c, int set) {
        long[] were = wells.stream().mapToLong(w -> w[3]).toArray();
        for (int w = 0; w < were.length; w++) if ((set >> w & 1) == 0) wells.get(w)[3] = 0;
        long m = milli(c);
        for (int w = 0; w < were.length; w++) wells.get(w)[3] = were[w];
        return m;
    }
    long harm(int c) {
        if (!has(cells, c)) return UNKNOWN;
        long a = milliWith(c, 0), b = milliWith(c, 7);
        return a == STATE || b == STATE ? STATE : a - b;
    }
    private void orders(List<Integer> come, List<List<Integer>> all) {
        if (come.size() == wells.size()) all.add(new ArrayList<>(come));
        for (int w = 0; w < wells.size(); w++) {
            if (come.contains(w)) continue;
            come.add(w);
            orders(come, all);
            come.remove(come.size() - 1);
        }
    }
    long share(int c, int well) {
        if (!has(cells, c) || !has(wells, well)) return UNKNOWN;
        for (int s = 0; s < 1 << wells.size(); s++) if (milliWith(c, s) == STATE) return STATE;
        List<List<Integer>> all = new ArrayList<>();
        orders(new ArrayList<>(), all);
        long sum = 0;
        for (List<Integer> order : all) {
            int set = 0;
            for (int w : order) {
                if (w == well) sum += milliWith(c, set) - milliWith(c, set | 1 << w);
                set |= 1 << w;
            }
        }
        return Part.of(6 * sum).by(Part.of(all.size())).side(true);
    }
    long count(int what) {
        return switch (what) {
            case 0 -> cells.size();
            case 1 -> links.size();
            case 2 -> rivers.size();
            case 3 -> drains.size();
            case 4 -> wells.size();
            case 5 -> worlds.size();
            case 6 -> permit.length();
            case 7 -> cells.stream().filter(c -> c[6] >= 0).count();
            case 8 -> wells.stream().mapToLong(w -> w[3]).sum();
            default -> BAD;
        };
    }
}
