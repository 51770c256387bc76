import java.util.ArrayDeque;
import java.util.ArrayList;
import java.util.Arrays;
import java.util.Comparator;
import java.util.Deque;
import java.util.HashSet;
import java.util.List;
import java.util.Set;
import java.util.TreeSet;
import java.util.regex.Matcher;
import java.util.regex.Pattern;

/**
 * The document once more, by other ways than the program's wherever there are some: by its bare definitions,
 * with the whole library. Slow; only for OracleTest.
 */
public final class Oracle {
    static final int NONE = -1;
    static final int NO = -100000;

    private List<int[]> pts = new ArrayList<>();
    private int grid = 10;
    private final StringBuilder tape = new StringBuilder();
    private int faultPlace = NONE;
    private final Deque<List<int[]>> past = new ArrayDeque<>();
    private final List<List<int[]>> slots = new ArrayList<>(Arrays.asList(null, null, null));

    // ---- text ----

    public int feed(int a, int b, int c, int d, int e) {
        if (tape.length() + 20 > 2000) return NONE;
        for (int w : new int[] {a, b, c, d, e}) {
            tape.append((char) (w >>> 24)).append((char) (w >>> 16 & 255)).append((char) (w >>> 8 & 255)).append((char) (w & 255));
        }
        return tape.length();
    }

    public int back(int n) {
        if (n < 0 || n > tape.length()) return NONE;
        tape.setLength(tape.length() - n);
        return tape.length();
    }

    public int place() { return faultPlace; }

    private record Token(char kind, int at, String text) { }

    private static final Pattern PIECE = Pattern.compile("[a-z]+|[0-9]+|(?s:.)");
    private static final Pattern TEXT = Pattern.compile("(pn-?i-?i;|gi;)*");

    private static char kindOf(String piece) {
        if (piece.equals("point")) return 'p';
        if (piece.equals("grid")) return 'g';
        if (piece.matches("[a-z]{1,8}")) return 'n';
        if (piece.matches("[0-9]{1,4}")) return 'i';
        if (piece.equals("-") || piece.equals(";")) return piece.charAt(0);
        return '?';
    }

    public int read() {
        String text = tape.toString();
        tape.setLength(0);
        List<Token> tokens = new ArrayList<>();
        Matcher pieces = PIECE.matcher(text);
        while (pieces.find()) {
            if (!pieces.group().matches("[\\t\\n\\r ]")) tokens.add(new Token(kindOf(pieces.group()), pieces.start(), pieces.group()));
        }
        List<int[]> hard = new ArrayList<>();
        StringBuilder kinds = new StringBuilder();
        int points = 0;
        boolean goesOn = true;
        for (int i = 0; i < tokens.size() && goesOn; i++) {
            Token t = tokens.get(i);
            kinds.append(t.kind);
            Matcher m = TEXT.matcher(kinds);
            goesOn = m.matches() || m.hitEnd();
            if (!goesOn) hard.add(new int[] {t.at, 1});
            if (i == 400) hard.add(new int[] {t.at, 2});
            if (goesOn && t.kind == 'p' && ++points == 13) hard.add(new int[] {t.at, 2});
        }
        if (goesOn && !TEXT.matcher(kinds).matches()) hard.add(new int[] {text.length(), 1});
        if (!hard.isEmpty()) return fail(hard);

        List<int[]> soft = new ArrayList<>();
        List<int[]> told = new ArrayList<>();
        Set<String> names = new HashSet<>();
        int newGrid = 10;
        int i = 0;
        while (i < tokens.size()) {
            if (tokens.get(i).kind == 'g') {
                Token size = tokens.get(i + 1);
                newGrid = Integer.parseInt(size.text);
                if (newGrid < 1 || newGrid > 20) soft.add(new int[] {size.at, 5});
                i += 3;
                continue;
            }
            Token name = tokens.get(i + 1);
            if (!names.add(name.text)) soft.add(new int[] {name.at, 3});
            i += 2;
            int[] xy = new int[2];
            Token last = null;
            for (int k = 0; k < 2; k++) {
                int sign = 1;
                if (tokens.get(i).kind == '-') { sign = -1; i++; }
                last = tokens.get(i);
                xy[k] = sign * Integer.parseInt(last.text);
                if (Math.abs(xy[k]) > 50) soft.add(new int[] {last.at, 5});
                i++;
            }
            for (int[] t : told) if (t[0] == xy[0] && t[1] == xy[1]) soft.add(new int[] {last.at, 3});
            told.add(xy);
            i++;
        }
        if (!soft.isEmpty()) return fail(soft);
        faultPlace = NONE;
        pts = told;
        grid = newGrid;
        past.clear();
        for (int s = 0; s < 3; s++) slots.set(s, null);
        return 0;
    }

    private int fail(List<int[]> faults) {
        faults.sort(Comparator.<int[]>comparingInt(f -> f[0]).thenComparingInt(f -> f[1]));
        faultPlace = faults.get(0)[0];
        return faults.get(0)[1];
    }

    // ---- by hand ----

    private List<int[]> copy() {
        List<int[]> c = new ArrayList<>();
        for (int[] p : pts) c.add(p.clone());
        return c;
    }

    private void remember() {
        past.addLast(copy());
        while (past.size() > 40) past.removeFirst();
    }

    private int at(int x, int y) {
        for (int i = 0; i < pts.size(); i++) if (pts.get(i)[0] == x && pts.get(i)[1] == y) return i;
        return NONE;
    }

    private boolean has(int p) { return p >= 0 && p < pts.size(); }

    private boolean mayCome(int x, int y) {
        return x >= -50 && x <= 50 && y >= -50 && y <= 50 && at(x, y) == NONE;
    }

    public int add(int x, int y) {
        if (pts.size() == 12 || !mayCome(x, y)) return NONE;
        remember();
        pts.add(new int[] {x, y});
        return pts.size() - 1;
    }

    public boolean goes(int p) {
        if (!has(p)) return false;
        remember();
        pts.remove(p);
        return true;
    }

    public boolean move(int p, int x, int y) {
        if (!has(p) || !mayCome(x, y)) return false;
        remember();
        pts.set(p, new int[] {x, y});
        return true;
    }

    public boolean turn(boolean mirrored) {
        if (pts.isEmpty()) return false;
        remember();
        for (int i = 0; i < pts.size(); i++) {
            int[] p = pts.get(i);
            pts.set(i, mirrored ? new int[] {-p[0], p[1]} : new int[] {-p[1], p[0]});
        }
        return true;
    }

    public boolean undo() {
        if (past.isEmpty()) return false;
        pts = past.removeLast();
        return true;
    }

    public boolean hold(int slot) {
        if (slot < 0 || slot > 2) return false;
        slots.set(slot, copy());
        return true;
    }

    public boolean restore(int slot) {
        if (slot < 0 || slot > 2 || slots.get(slot) == null) return false;
        pts = slots.get(slot);
        pts = copy();
        past.clear();
        return true;
    }

    // ---- geometry ----

    private static long turn(int[] p, int[] q, int[] r) {
        return (long) (q[0] - p[0]) * (r[1] - p[1]) - (long) (q[1] - p[1]) * (r[0] - p[0]);
    }

    /** Corners by a monotone chain, from the least Y, then X, on, left turns alone. */
    private static List<int[]> chain(List<int[]> some) {
        List<int[]> sorted = new ArrayList<>(some);
        sorted.sort(Comparator.<int[]>comparingInt(p -> p[1]).thenComparingInt(p -> p[0]));
        if (sorted.size() <= 2) return sorted;
        List<int[]> hull = new ArrayList<>();
        for (int pass = 0; pass < 2; pass++) {
            int base = hull.size();
            for (int i = 0; i < sorted.size(); i++) {
                int[] p = sorted.get(pass == 0 ? i : sorted.size() - 1 - i);
                while (hull.size() >= base + 2 && turn(hull.get(hull.size() - 2), hull.get(hull.size() - 1), p) <= 0) hull.remove(hull.size() - 1);
                hull.add(p);
            }
            hull.remove(hull.size() - 1);
        }
        return hull;
    }

    private static boolean onWay(int[] a, int[] b, int[] p) {
        return turn(a, b, p) == 0 && Math.min(a[0], b[0]) <= p[0] && p[0] <= Math.max(a[0], b[0])
            && Math.min(a[1], b[1]) <= p[1] && p[1] <= Math.max(a[1], b[1]);
    }

    private static List<int[]> rim(List<int[]> some) {
        List<int[]> corners = chain(some);
        List<int[]> rim = new ArrayList<>();
        for (int[] p : some) {
            boolean on = false;
            for (int i = 0; i < corners.size(); i++) on |= onWay(corners.get(i), corners.get((i + 1) % corners.size()), p);
            if (on) rim.add(p);
        }
        return rim;
    }

    private static List<List<int[]>> layers(List<int[]> some) {
        List<List<int[]>> all = new ArrayList<>();
        List<int[]> left = new ArrayList<>(some);
        while (!left.isEmpty()) {
            List<int[]> r = rim(left);
            all.add(r);
            left.removeAll(r);
        }
        return all;
    }

    private int bits(List<int[]> some) {
        int b = 0;
        for (int[] p : some) b |= 1 << pts.indexOf(p);
        return b;
    }

    private List<int[]> ofBits(int set) {
        List<int[]> some = new ArrayList<>();
        for (int i = 0; i < pts.size(); i++) if ((set >> i & 1) == 1) some.add(pts.get(i));
        return some;
    }

    /** All directions at right angles to the ones given, the axes, and one between each two neighbours. */
    private static List<long[]> normals(List<long[]> ways) {
        List<long[]> around = new ArrayList<>();
        for (long[] w : ways) {
            if (w[0] == 0 && w[1] == 0) continue;
            around.add(new long[] {-w[1], w[0]});
            around.add(new long[] {w[1], -w[0]});
        }
        for (long[] axis : new long[][] {{1, 0}, {0, 1}, {-1, 0}, {0, -1}}) around.add(axis);
        around.sort((u, v) -> {
            int hu = u[1] > 0 || u[1] == 0 && u[0] > 0 ? 0 : 1;
            int hv = v[1] > 0 || v[1] == 0 && v[0] > 0 ? 0 : 1;
            return hu != hv ? hu - hv : Long.compare(0, u[0] * v[1] - u[1] * v[0]);
        });
        List<long[]> out = new ArrayList<>(around);
        for (int i = 0; i < around.size(); i++) {
            long[] u = around.get(i);
            long[] v = around.get((i + 1) % around.size());
            out.add(new long[] {u[0] + v[0], u[1] + v[1]});
        }
        return out;
    }

    private static int depthIn(List<int[]> some, int x, int y) {
        List<long[]> ways = new ArrayList<>();
        for (int[] p : some) ways.add(new long[] {p[0] - x, p[1] - y});
        int least = some.size();
        for (long[] n : normals(ways)) {
            int many = 0;
            for (int[] p : some) if (n[0] * (p[0] - x) + n[1] * (p[1] - y) >= 0) many++;
            least = Math.min(least, many);
        }
        return least;
    }

    private Set<Integer> cutSets() {
        Set<Integer> sets = new TreeSet<>();
        List<long[]> ways = new ArrayList<>();
        for (int[] p : pts) for (int[] q : pts) ways.add(new long[] {p[0] - q[0], p[1] - q[1]});
        for (long[] n : normals(ways)) {
            TreeSet<Long> heights = new TreeSet<>();
            for (int[] p : pts) heights.add(n[0] * p[0] + n[1] * p[1]);
            sets.add(0);
            for (long h : heights) {
                int set = 0;
                for (int i = 0; i < pts.size(); i++) if (n[0] * pts.get(i)[0] + n[1] * pts.get(i)[1] <= h) set |= 1 << i;
                sets.add(set);
            }
        }
        return sets;
    }

    private static boolean inTriangle(int[] a, int[] b, int[] c, int[] p) {
        return Math.abs(turn(a, b, c)) == Math.abs(turn(a, b, p)) + Math.abs(turn(b, c, p)) + Math.abs(turn(c, a, p));
    }

    private static boolean inFigure(List<int[]> some, int[] p) {
        for (int[] a : some) for (int[] b : some) {
            if (onWay(a, b, p)) return true;
            for (int[] c : some) if (turn(a, b, c) != 0 && inTriangle(a, b, c, p)) return true;
        }
        return false;
    }

    /** 0 nothing in common, 1 just one place inside of both, 2 some other meeting. */
    private static int waysMeet(int[] a, int[] b, int[] c, int[] d) {
        if (onWay(a, b, c) || onWay(a, b, d) || onWay(c, d, a) || onWay(c, d, b)) return 2;
        long rx = b[0] - a[0], ry = b[1] - a[1], sx = d[0] - c[0], sy = d[1] - c[1];
        long den = rx * sy - ry * sx;
        if (den == 0) return 0;
        long t = (c[0] - a[0]) * sy - (c[1] - a[1]) * sx;
        long u = (c[0] - a[0]) * ry - (c[1] - a[1]) * rx;
        if (den < 0) { den = -den; t = -t; u = -u; }
        return t > 0 && t < den && u > 0 && u < den ? 1 : 0;
    }

    private static boolean figuresMeet(List<int[]> s, List<int[]> t) {
        for (int[] p : s) if (inFigure(t, p)) return true;
        for (int[] p : t) if (inFigure(s, p)) return true;
        for (int[] a : s) for (int[] b : s) for (int[] c : t) for (int[] d : t) if (waysMeet(a, b, c, d) != 0) return true;
        return false;
    }

    private int sideCount(int p, int q, int sign, int set) {
        return Integer.bitCount(sideSet(p, q, sign) & set);
    }

    private int sideSet(int p, int q, int sign) {
        int s = 0;
        for (int r = 0; r < pts.size(); r++) if (r != p && r != q && Long.signum(turn(pts.get(p), pts.get(q), pts.get(r))) == sign) s |= 1 << r;
        return s;
    }

    // ---- answers ----

    public int point(int p, int what) {
        if (!has(p)) return NO;
        int[] me = pts.get(p);
        switch (what) {
            case 0: return me[0];
            case 1: return me[1];
            case 2: case 4:
                List<List<int[]>> all = layers(pts);
                for (int i = 0; i < all.size(); i++) if (all.get(i).contains(me)) return what == 2 ? i : chain(all.get(i)).contains(me) ? 1 : 0;
                throw new IllegalStateException();
            case 3: return depthIn(pts, me[0], me[1]);
            case 5:
                int many = 0;
                for (int x = -grid; x <= grid; x++) for (int y = -grid; y <= grid; y++) {
                    final int fx = x, fy = y;
                    long nearer = pts.stream().filter(q -> q != me && Math.hypot(q[0] - fx, q[1] - fy) * Math.hypot(q[0] - fx, q[1] - fy) - 0.5
                        < (double) (me[0] - fx) * (me[0] - fx) + (double) (me[1] - fy) * (me[1] - fy)).count();
                    if (nearer == 0) many++;
                }
                return many;
            default: return NO;
        }
    }

    public int turned(int p, int q, int r, int what) {
        if (!has(p) || !has(q) || !has(r) || what < 0 || what > 1) return NO;
        long t = turn(pts.get(p), pts.get(q), pts.get(r));
        return what == 0 ? (int) t : Long.signum(t);
    }

    public int sides(int p, int q, int what) {
        if (!has(p) || !has(q) || p == q || what < 0 || what > 5) return NONE;
        int s = sideSet(p, q, new int[] {1, -1, 0}[what % 3]);
        return what < 3 ? Integer.bitCount(s) : s;
    }

    public int corner(int i) {
        List<int[]> c = chain(pts);
        return i == NONE ? c.size() : i >= 0 && i < c.size() ? pts.indexOf(c.get(i)) : NONE;
    }

    public int layer(int i) {
        List<List<int[]>> l = layers(pts);
        return i == NONE ? l.size() : i >= 0 && i < l.size() ? bits(l.get(i)) : NONE;
    }

    public int edges(int k) {
        int many = 0;
        for (int p = 0; p < pts.size(); p++) for (int q = 0; q < pts.size(); q++) if (p != q && sideCount(p, q, -1, -1) == k) many++;
        return many;
    }

    public int halving(int i) {
        List<Integer> all = new ArrayList<>();
        for (int p = 0; p < pts.size(); p++) for (int q = p + 1; q < pts.size(); q++) {
            if (Math.max(sideCount(p, q, -1, -1), sideCount(p, q, 1, -1)) <= pts.size() / 2.0) all.add(16 * p + q);
        }
        return i == NONE ? all.size() : i >= 0 && i < all.size() ? all.get(i) : NONE;
    }

    public int cutOff(int k) {
        return (int) cutSets().stream().filter(s -> Integer.bitCount(s) == k).count() + (pts.isEmpty() && k == 0 && cutSets().isEmpty() ? 1 : 0);
    }

    public int isCutOff(int set) {
        if (set < 0 || set >= 1 << pts.size()) return NONE;
        return cutSets().contains(set) ? 1 : 0;
    }

    public int depth(int x, int y) {
        return Math.abs((long) x) > 200 || Math.abs((long) y) > 200 ? NONE : depthIn(pts, x, y);
    }

    /** X, Y, DEPTH of each place of the GRID, by Y, then X. */
    private static List<int[]> places(List<int[]> some, int grid) {
        List<int[]> all = new ArrayList<>();
        for (int y = -grid; y <= grid; y++) for (int x = -grid; x <= grid; x++) all.add(new int[] {x, y, depthIn(some, x, y)});
        return all;
    }

    public int deepest(int what) {
        if (what < 0 || what > 3) return NO;
        List<int[]> all = places(pts, grid);
        int most = all.stream().mapToInt(p -> p[2]).max().getAsInt();
        all.removeIf(p -> p[2] != most);
        return new int[] {most, all.size(), all.get(0)[0], all.get(0)[1]}[what];
    }

    public int region(int k, int what) {
        if (what < 0 || what > 4) return NO;
        List<int[]> all = places(pts, grid);
        all.removeIf(p -> p[2] < k);
        switch (what) {
            case 0: return all.size();
            case 1: return all.stream().mapToInt(p -> p[0]).min().orElse(NO);
            case 2: return all.stream().mapToInt(p -> p[0]).max().orElse(NO);
            case 3: return all.stream().mapToInt(p -> p[1]).min().orElse(NO);
            default: return all.stream().mapToInt(p -> p[1]).max().orElse(NO);
        }
    }

    private int trianglesOver(int[] place, List<int[]> without) {
        int many = 0;
        for (int p = 0; p < pts.size(); p++) for (int q = 0; q < p; q++) for (int r = 0; r < q; r++) {
            int[] a = pts.get(p), b = pts.get(q), c = pts.get(r);
            if (turn(a, b, c) != 0 && inTriangle(a, b, c, place)) many++;
        }
        return many;
    }

    public int triangles(int x, int y) {
        return Math.abs((long) x) > 200 || Math.abs((long) y) > 200 ? NONE : trianglesOver(new int[] {x, y}, null);
    }

    private List<int[]> orderAt(long over, long under) {
        List<int[]> sorted = new ArrayList<>(pts);
        sorted.sort(Comparator.<int[]>comparingLong(p -> p[0] * over - p[1] * under).thenComparingInt(p -> p[0]));
        return sorted;
    }

    public int order(int x, int i) {
        if (x < -1000 || x > 1000 || i < 0 || i >= pts.size()) return NONE;
        return pts.indexOf(orderAt(x, 1).get(i));
    }

    private List<long[]> crossings() {
        List<long[]> all = new ArrayList<>();
        for (int p = 0; p < pts.size(); p++) for (int q = p + 1; q < pts.size(); q++) {
            long up = pts.get(q)[1] - pts.get(p)[1], down = pts.get(q)[0] - pts.get(p)[0];
            if (down == 0) continue;
            long g = java.math.BigInteger.valueOf(up).gcd(java.math.BigInteger.valueOf(down)).longValue() * Long.signum(down);
            all.add(new long[] {up / g, down / g, p, q});
        }
        all.sort(Comparator.<long[]>comparingDouble(c -> (double) c[0] / c[1]).thenComparingLong(c -> c[2]).thenComparingLong(c -> c[3]));
        return all;
    }

    public int crossing(int i, int what) {
        List<long[]> all = crossings();
        if (i == NONE) return all.size();
        return i < 0 || i >= all.size() || what < 0 || what > 3 ? NO : (int) all.get(i)[what];
    }

    public int bends(int i) {
        if (!has(i)) return NONE;
        List<long[]> xs = new ArrayList<>();
        for (long[] c : crossings()) {
            long[] last = xs.isEmpty() ? null : xs.get(xs.size() - 1);
            if (last == null || last[0] != c[0] || last[1] != c[1]) xs.add(c);
        }
        if (xs.isEmpty()) return 0;
        List<int[]> seen = new ArrayList<>();
        seen.add(orderAt(xs.get(0)[0] - xs.get(0)[1], xs.get(0)[1]).get(i));
        for (int k = 0; k + 1 < xs.size(); k++) {
            long[] u = xs.get(k), v = xs.get(k + 1);
            seen.add(orderAt(u[0] * v[1] + v[0] * u[1], 2 * u[1] * v[1]).get(i));
        }
        long[] z = xs.get(xs.size() - 1);
        seen.add(orderAt(z[0] + z[1], z[1]).get(i));
        int many = 0;
        for (int k = 0; k + 1 < seen.size(); k++) if (seen.get(k) != seen.get(k + 1)) many++;
        return many;
    }

    private int fitOf(int a, int b) {
        int least = Integer.MAX_VALUE;
        for (double v = -50.5; v <= 50.5; v++) {
            int one = 0, two = 0;
            for (int[] p : pts) {
                int rest = p[1] - (a * p[0] + b);
                if (p[0] < v && rest >= 0 || p[0] > v && rest <= 0) one++;
                if (p[0] < v && rest <= 0 || p[0] > v && rest >= 0) two++;
            }
            least = Math.min(least, Math.min(one, two));
        }
        return least;
    }

    public int fit(int a, int b) {
        return a < -100 || a > 100 || b < -10000 || b > 10000 ? NONE : fitOf(a, b);
    }

    public int best(int what) {
        if (what < 0 || what > 3) return NO;
        int most = -1, ba = 0, bb = 0, many = 0;
        for (int a = -10; a <= 10; a++) for (int b = -50; b <= 50; b++) {
            int f = fitOf(a, b);
            if (f > most) { most = f; ba = a; bb = b; many = 1; } else if (f == most) many++;
        }
        return new int[] {most, ba, bb, many}[what];
    }

    public int halvingBoth(int set, int i) {
        if (set < 0 || set >= 1 << pts.size()) return NONE;
        int rest = ((1 << pts.size()) - 1) ^ set;
        List<Integer> all = new ArrayList<>();
        for (int p = 0; p < pts.size(); p++) for (int q = 0; q < pts.size(); q++) {
            if ((set >> p & 1) == 0 || (rest >> q & 1) == 0) continue;
            boolean good = true;
            for (int sign = -1; sign <= 1; sign += 2) {
                good &= sideCount(p, q, sign, set) <= Integer.bitCount(set) / 2.0;
                good &= sideCount(p, q, sign, rest) <= Integer.bitCount(rest) / 2.0;
            }
            if (good) all.add(16 * p + q);
        }
        return i == NONE ? all.size() : i >= 0 && i < all.size() ? all.get(i) : NONE;
    }

    public int four(int p, int q, int r, int s) {
        int[] n = {p, q, r, s};
        Set<Integer> unlike = new HashSet<>();
        for (int x : n) if (!has(x) || !unlike.add(x)) return NONE;
        Arrays.sort(n);
        for (int skip = 0; skip < 4; skip++) {
            int[] t = new int[3];
            for (int k = 0, m = 0; k < 4; k++) if (k != skip) t[m++] = n[k];
            if (turn(pts.get(t[0]), pts.get(t[1]), pts.get(t[2])) == 0) return -2;
        }
        List<Integer> parts = new ArrayList<>();
        for (int m = 1; m < 15; m += 2) {
            int one = 0, two = 0;
            for (int k = 0; k < 4; k++) if ((m >> k & 1) == 1) one |= 1 << n[k]; else two |= 1 << n[k];
            if (figuresMeet(ofBits(one), ofBits(two))) parts.add(one);
        }
        if (parts.size() != 1) throw new IllegalStateException("parts " + parts);
        return parts.get(0);
    }

    public int keeping(int p) {
        if (!has(p)) return NONE;
        int many = 0;
        for (int x = -grid; x <= grid; x++) for (int y = -grid; y <= grid; y++) {
            boolean same = at(x, y) == NONE || at(x, y) == p;
            for (int q = 0; q < pts.size() && same; q++) for (int r = 0; r < pts.size() && same; r++) {
                if (q == p || r == p || q == r) continue;
                same = Long.signum(turn(new int[] {x, y}, pts.get(q), pts.get(r))) == Long.signum(turn(pts.get(p), pts.get(q), pts.get(r)));
            }
            if (same) many++;
        }
        return many;
    }

    public int splits() {
        int many = 0;
        int all = (1 << pts.size()) - 1;
        for (int s = 1; s < all; s += 2) if (figuresMeet(ofBits(s), ofBits(all ^ s))) many++;
        return many;
    }

    public int fresh(int x, int y, int what) {
        if (what < 0 || what > 2 || pts.size() == 12 || !mayCome(x, y)) return NONE;
        List<int[]> more = copy();
        more.add(new int[] {x, y});
        if (what == 0) return layers(more).size();
        if (what == 2) return chain(more).size();
        return places(more, grid).stream().mapToInt(p -> p[2]).max().getAsInt();
    }

    public int count(int what) {
        switch (what) {
            case 0: return pts.size();
            case 1: return grid;
            case 2:
                List<int[]> c = chain(pts);
                int area = 0;
                for (int i = 0; i < c.size(); i++) {
                    int[] a = c.get(i), b = c.get((i + 1) % c.size());
                    area += a[0] * b[1] - a[1] * b[0];
                }
                return area;
            case 3: return bits(chain(pts));
            case 4: return triples(0);
            case 5: return pts.stream().mapToInt(p -> depthIn(pts, p[0], p[1])).max().orElse(0);
            case 6:
                int most = count(5), set = 0;
                for (int i = 0; i < pts.size(); i++) if (depthIn(pts, pts.get(i)[0], pts.get(i)[1]) == most) set |= 1 << i;
                return set;
            case 7: return tape.length();
            case 8: return past.size();
            case 9: return (int) slots.stream().filter(s -> s != null).count();
            case 10: return (int) Math.ceil(pts.size() / 3.0);
            case 11: return region(count(10), 0) > 0 ? 1 : 0;
            case 12:
                int great = 0;
                for (int s = 0; s < 1 << pts.size(); s++) {
                    List<int[]> some = ofBits(s);
                    if (chain(some).size() == some.size()) great = Math.max(great, some.size());
                }
                return great;
            case 13: return triples(1);
            case 14:
                int meet = 0;
                for (int p = 0; p < pts.size(); p++) for (int q = p + 1; q < pts.size(); q++)
                    for (int r = 0; r < pts.size(); r++) for (int s = r + 1; s < pts.size(); s++)
                        if (r != p && r != q && s != p && s != q && waysMeet(pts.get(p), pts.get(q), pts.get(r), pts.get(s)) == 1) meet++;
                return meet / 2;
            default: return NONE;
        }
    }

    /** 0: triples on one line, 1: empty triangles. */
    private int triples(int what) {
        int many = 0;
        for (int p = 0; p < pts.size(); p++) for (int q = 0; q < p; q++) for (int r = 0; r < q; r++) {
            int[] a = pts.get(p), b = pts.get(q), c = pts.get(r);
            if (turn(a, b, c) == 0) {
                many += what == 0 ? 1 : 0;
            } else if (what == 1) {
                boolean empty = true;
                for (int[] s : pts) empty &= s == a || s == b || s == c || !inTriangle(a, b, c, s);
                many += empty ? 1 : 0;
            }
        }
        return many;
    }
}
