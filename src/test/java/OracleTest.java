import java.math.BigInteger;
import java.util.ArrayList;
import java.util.List;
import java.util.Random;
import java.util.regex.Matcher;
import java.util.regex.Pattern;

/**
 * Random states, every call compared with a slow second reading of the document: exact fractions,
 * hulls by triangles, and no step shared with the class.
 */
public final class OracleTest {
    static final int NONE = -1;
    static final long NO = Long.MIN_VALUE;
    static int wrong = 0;
    static String state = "";

    static void due(String call, long got, long want) {
        if (got != want) {
            wrong++;
            if (wrong < 40) {
                System.out.println(state + ": " + call + " answered " + got + ", due is " + want);
            }
        }
    }

    // ---- fractions and places ----

    record Q(BigInteger up, BigInteger down) {
        static Q of(long v) {
            return new Q(BigInteger.valueOf(v), BigInteger.ONE);
        }

        static Q by(BigInteger a, BigInteger b) {
            BigInteger g = a.gcd(b);
            if (b.signum() < 0) {
                g = g.negate();
            }
            return new Q(a.divide(g), b.divide(g));
        }

        Q plus(Q o) {
            return by(up.multiply(o.down).add(o.up.multiply(down)), down.multiply(o.down));
        }

        Q minus(Q o) {
            return plus(new Q(o.up.negate(), o.down));
        }

        Q times(Q o) {
            return by(up.multiply(o.up), down.multiply(o.down));
        }

        Q over(Q o) {
            return by(up.multiply(o.down), down.multiply(o.up));
        }

        int sign() {
            return up.signum();
        }

        int compare(Q o) {
            return minus(o).sign();
        }
    }

    record V(Q x, Q y) {
        static V of(long x, long y) {
            return new V(Q.of(x), Q.of(y));
        }

        V plus(V o) {
            return new V(x.plus(o.x), y.plus(o.y));
        }

        V minus(V o) {
            return new V(x.minus(o.x), y.minus(o.y));
        }

        V times(Q f) {
            return new V(x.times(f), y.times(f));
        }

        Q dot(V o) {
            return x.times(o.x).plus(y.times(o.y));
        }

        Q cross(V o) {
            return x.times(o.y).minus(y.times(o.x));
        }

        boolean same(V o) {
            return x.compare(o.x) == 0 && y.compare(o.y) == 0;
        }

        boolean less(V o) {
            int c = x.compare(o.x);
            return c < 0 || c == 0 && y.compare(o.y) < 0;
        }

        /** x, y by one lower number. */
        long[] told() {
            BigInteger g = x.down.gcd(y.down);
            BigInteger l = x.down.multiply(y.down).divide(g);
            return new long[] {x.up.multiply(l).divide(x.down).longValueExact(),
                y.up.multiply(l).divide(y.down).longValueExact(), l.longValueExact()};
        }

        /** The direction without a common divisor. */
        long[] direction() {
            long[] t = told();
            long g = BigInteger.valueOf(t[0]).gcd(BigInteger.valueOf(t[1])).longValueExact();
            return new long[] {t[0] / g, t[1] / g};
        }
    }

    // ---- the second reading ----

    static List<int[]> points = new ArrayList<>();
    static int cx;
    static int cy;

    static V at(int point) {
        return V.of(points.get(point)[0], points.get(point)[1]);
    }

    static V centre() {
        return V.of(cx, cy);
    }

    static boolean isSet(int set) {
        return set > 0 && (long) set < 1L << points.size();
    }

    static boolean isPoint(int p) {
        return p >= 0 && p < points.size();
    }

    static boolean isXY(int x, int y) {
        return Math.abs((long) x) <= 20 && Math.abs((long) y) <= 20;
    }

    static List<Integer> members(int set) {
        List<Integer> list = new ArrayList<>();
        for (int i = 0; i < 31; i++) {
            if ((set >> i & 1) == 1) {
                list.add(i);
            }
        }
        return list;
    }

    static List<V> placesOf(int set) {
        List<V> list = new ArrayList<>();
        for (int p : members(set)) {
            boolean there = false;
            for (V v : list) {
                there |= v.same(at(p));
            }
            if (!there) {
                list.add(at(p));
            }
        }
        return list;
    }

    static boolean hullHolds(List<V> list, V q) {
        for (V a : list) {
            if (a.same(q)) {
                return true;
            }
        }
        for (int i = 0; i < list.size(); i++) {
            for (int j = i + 1; j < list.size(); j++) {
                if (between(list.get(i), list.get(j), q)) {
                    return true;
                }
            }
        }
        for (int i = 0; i < list.size(); i++) {
            for (int j = i + 1; j < list.size(); j++) {
                for (int k = j + 1; k < list.size(); k++) {
                    if (inTriangle(list.get(i), list.get(j), list.get(k), q)) {
                        return true;
                    }
                }
            }
        }
        return false;
    }

    static boolean between(V a, V b, V q) {
        return a.minus(q).cross(b.minus(q)).sign() == 0 && a.minus(q).dot(b.minus(q)).sign() <= 0;
    }

    static boolean inTriangle(V a, V b, V c, V q) {
        int turn = b.minus(a).cross(c.minus(a)).sign();
        return turn != 0 && b.minus(a).cross(q.minus(a)).sign() * turn >= 0
            && c.minus(b).cross(q.minus(b)).sign() * turn >= 0
            && a.minus(c).cross(q.minus(c)).sign() * turn >= 0;
    }

    static List<Integer> cornersOf(int set) {
        List<Integer> found = new ArrayList<>();
        for (int p : members(set)) {
            List<V> others = new ArrayList<>();
            boolean first = true;
            for (int o : members(set)) {
                if (at(o).same(at(p))) {
                    first &= o >= p;
                } else {
                    others.add(at(o));
                }
            }
            if (first && !hullHolds(others, at(p))) {
                found.add(p);
            }
        }
        found.sort((a, b) -> at(a).less(at(b)) ? -1 : 1);
        if (found.size() > 2) {
            int start = found.remove(0);
            found.sort((a, b) -> -at(a).minus(at(start)).cross(at(b).minus(at(start))).sign());
            found.add(0, start);
        }
        return found;
    }

    static Q areaOf(List<Integer> corners) {
        Q sum = Q.of(0);
        for (int i = 2; i < corners.size(); i++) {
            V o = at(corners.get(0));
            sum = sum.plus(at(corners.get(i - 1)).minus(o).cross(at(corners.get(i)).minus(o)));
        }
        return sum;
    }

    static int whereIs(int set, V q) {
        List<V> list = placesOf(set);
        if (!hullHolds(list, q)) {
            return 0;
        }
        for (V p : list) {
            if (p.same(q)) {
                continue;
            }
            boolean left = false;
            boolean right = false;
            for (V o : list) {
                int s = p.minus(q).cross(o.minus(q)).sign();
                left |= s > 0;
                right |= s < 0;
            }
            if (!left || !right) {
                return 1;
            }
        }
        return list.size() == 1 ? 1 : 2;
    }

    static V nearestOnEdge(V a, V b, V q) {
        V way = b.minus(a);
        if (way.dot(way).sign() == 0) {
            return a;
        }
        Q t = q.minus(a).dot(way).over(way.dot(way));
        if (t.sign() <= 0) {
            return a;
        }
        return t.compare(Q.of(1)) >= 0 ? b : a.plus(way.times(t));
    }

    static V nearestOf(List<V> list, V q) {
        if (hullHolds(list, q)) {
            return q;
        }
        V best = null;
        for (V a : list) {
            for (V b : list) {
                V n = nearestOnEdge(a, b, q);
                if (best == null || squared(n.minus(q)).compare(squared(best.minus(q))) < 0) {
                    best = n;
                }
            }
        }
        return best;
    }

    static Q squared(V v) {
        return v.dot(v);
    }

    static long least(int set, long a, long b) {
        long least = Long.MAX_VALUE;
        for (int p : members(set)) {
            least = Math.min(least, a * points.get(p)[0] + b * points.get(p)[1]);
        }
        return least;
    }

    /** f with sum f = 1 and sum f * place = q, by Gauss; null if there is none. */
    static Q[] mixtureOf(List<V> list, V q) {
        int n = list.size();
        Q[][] m = new Q[3][n + 1];
        for (int i = 0; i < n; i++) {
            m[0][i] = list.get(i).x();
            m[1][i] = list.get(i).y();
            m[2][i] = Q.of(1);
        }
        m[0][n] = q.x();
        m[1][n] = q.y();
        m[2][n] = Q.of(1);
        int row = 0;
        int[] pivotOf = new int[n];
        for (int c = 0; c < n; c++) {
            pivotOf[c] = -1;
            int r = row;
            while (r < 3 && m[r][c].sign() == 0) {
                r++;
            }
            if (r == 3) {
                continue;
            }
            Q[] swap = m[r];
            m[r] = m[row];
            m[row] = swap;
            Q f = m[row][c];
            for (int k = 0; k <= n; k++) {
                m[row][k] = m[row][k].over(f);
            }
            for (int o = 0; o < 3; o++) {
                if (o != row) {
                    Q g = m[o][c];
                    for (int k = 0; k <= n; k++) {
                        m[o][k] = m[o][k].minus(m[row][k].times(g));
                    }
                }
            }
            pivotOf[c] = row++;
        }
        for (int r = row; r < 3; r++) {
            if (m[r][n].sign() != 0) {
                return null;
            }
        }
        Q[] answer = new Q[n];
        for (int c = 0; c < n; c++) {
            answer[c] = pivotOf[c] < 0 ? Q.of(0) : m[pivotOf[c]][n];
        }
        return answer;
    }

    /** Whole numbers in the ratio of fractions, without a common divisor. */
    static long[] whole(Q[] f) {
        BigInteger l = BigInteger.ONE;
        for (Q q : f) {
            l = l.multiply(q.down()).divide(l.gcd(q.down()));
        }
        BigInteger g = BigInteger.ZERO;
        BigInteger[] n = new BigInteger[f.length];
        for (int i = 0; i < f.length; i++) {
            n[i] = f[i].up().multiply(l).divide(f[i].down());
            g = g.gcd(n[i]);
        }
        long[] answer = new long[f.length];
        for (int i = 0; i < f.length; i++) {
            answer[i] = n[i].divide(g).longValueExact();
        }
        return answer;
    }

    /** l of every point; null without a tie. */
    static long[] tieOf(int set) {
        List<Integer> ahead = new ArrayList<>();
        for (int p : members(set)) {
            List<V> list = new ArrayList<>();
            for (int a : ahead) {
                list.add(at(a));
            }
            Q[] f = ahead.isEmpty() ? null : mixtureOf(list, at(p));
            if (f != null) {
                Q[] all = new Q[24];
                for (int i = 0; i < 24; i++) {
                    all[i] = Q.of(0);
                }
                for (int i = 0; i < f.length; i++) {
                    all[ahead.get(i)] = Q.of(0).minus(f[i]);
                }
                all[p] = Q.of(1);
                return whole(all);
            }
            ahead.add(p);
        }
        return null;
    }

    static int bits(long[] l, int sign) {
        int set = 0;
        for (int i = 0; i < l.length; i++) {
            set |= Long.signum(l[i]) == sign ? 1 << i : 0;
        }
        return set;
    }

    static V weighted(long[] l, int set) {
        V sum = V.of(0, 0);
        Q all = Q.of(0);
        for (int p : members(set)) {
            sum = sum.plus(at(p).times(Q.of(l[p])));
            all = all.plus(Q.of(l[p]));
        }
        return sum.times(Q.of(1).over(all));
    }

    static long[] loadRow() {
        long[] l = new long[24];
        for (int i = 0; i < points.size(); i++) {
            l[i] = points.get(i)[3];
        }
        return l;
    }

    static List<Q[]> reduction() {
        List<Q[]> rows = new ArrayList<>();
        long[] l = loadRow();
        Q all = Q.of(0);
        for (long v : l) {
            all = all.plus(Q.of(v));
        }
        Q[] w = new Q[24];
        for (int i = 0; i < 24; i++) {
            w[i] = Q.of(l[i]).over(all);
        }
        while (true) {
            rows.add(w);
            int alive = alive(w);
            long[] t = tieOf(alive);
            if (t == null) {
                return rows;
            }
            Q much = null;
            for (int p : members(bits(t, 1))) {
                Q f = w[p].over(Q.of(t[p]));
                if (much == null || f.compare(much) < 0) {
                    much = f;
                }
            }
            Q[] next = new Q[24];
            for (int i = 0; i < 24; i++) {
                next[i] = w[i].minus(much.times(Q.of(t[i])));
            }
            w = next;
        }
    }

    static int alive(Q[] w) {
        int set = 0;
        for (int i = 0; i < 24; i++) {
            set |= w[i].sign() > 0 ? 1 << i : 0;
        }
        return set;
    }

    static boolean isRainbow(int r, int g, int b) {
        return isPoint(r) && isPoint(g) && isPoint(b) && points.get(r)[2] == 0 && points.get(g)[2] == 1
            && points.get(b)[2] == 2;
    }

    static List<int[]> allRainbows() {
        List<int[]> list = new ArrayList<>();
        for (int r = 0; r < points.size(); r++) {
            for (int g = 0; g < points.size(); g++) {
                for (int b = 0; b < points.size(); b++) {
                    if (isRainbow(r, g, b)) {
                        list.add(new int[] {r, g, b});
                    }
                }
            }
        }
        return list;
    }

    static List<V> placesOfThree(int[] three) {
        return List.of(at(three[0]), at(three[1]), at(three[2]));
    }

    /** Rows of red, green, blue, colour that went; all on the way from a rainbow. */
    static List<int[]> wayFrom(int r, int g, int b) {
        List<int[]> rows = new ArrayList<>();
        rows.add(new int[] {r, g, b, NONE});
        while (true) {
            int[] now = rows.get(rows.size() - 1);
            List<V> list = placesOfThree(now);
            if (hullHolds(list, centre())) {
                return rows;
            }
            V n = nearestOf(list, centre());
            List<Integer> face = faceOf(list, n);
            int goes = face.contains(0) ? face.contains(1) ? 2 : 1 : 0;
            V way = n.minus(centre());
            int best = -1;
            for (int p = 0; p < points.size(); p++) {
                if (points.get(p)[2] == goes && (best < 0
                    || at(p).minus(centre()).dot(way).compare(at(best).minus(centre()).dot(way)) < 0)) {
                    best = p;
                }
            }
            if (at(best).minus(centre()).dot(way).compare(way.dot(way)) >= 0) {
                return rows;
            }
            int[] next = now.clone();
            next[goes] = best;
            next[3] = goes;
            rows.add(next);
        }
    }

    static List<Integer> faceOf(List<V> list, V n) {
        for (int i = 0; i < 3; i++) {
            if (list.get(i).same(n)) {
                return List.of(i);
            }
        }
        int[][] pairs = {{0, 1}, {0, 2}, {1, 2}};
        for (int[] p : pairs) {
            if (between(list.get(p[0]), list.get(p[1]), n)) {
                return List.of(p[0], p[1]);
            }
        }
        throw new IllegalStateException();
    }

    static long[] mixtureAtCentre(int[] three) {
        int[][] subsets = {{0}, {1}, {2}, {0, 1}, {0, 2}, {1, 2}, {0, 1, 2}};
        for (int[] s : subsets) {
            List<V> list = new ArrayList<>();
            for (int i : s) {
                list.add(at(three[i]));
            }
            if (hullHolds(list, centre())) {
                Q[] f = mixtureOf(list, centre());
                Q[] all = {Q.of(0), Q.of(0), Q.of(0), Q.of(1)};
                for (int i = 0; i < s.length; i++) {
                    all[s[i]] = f[i];
                }
                return whole(all);
            }
        }
        return null;
    }

    /** The least place that all hulls have; null if there is none. */
    static V leastCommon(List<List<V>> hulls) {
        List<V> offers = new ArrayList<>();
        for (List<V> h : hulls) {
            offers.addAll(h);
        }
        for (int i = 0; i < hulls.size(); i++) {
            for (int j = i + 1; j < hulls.size(); j++) {
                crossings(hulls.get(i), hulls.get(j), offers);
            }
        }
        V best = null;
        for (V o : offers) {
            if (best != null && !o.less(best)) {
                continue;
            }
            boolean all = true;
            for (List<V> h : hulls) {
                all = all && hullHolds(h, o);
            }
            if (all) {
                best = o;
            }
        }
        return best;
    }

    static void crossings(List<V> one, List<V> two, List<V> offers) {
        for (int a = 0; a < one.size(); a++) {
            for (int b = a + 1; b < one.size(); b++) {
                for (int c = 0; c < two.size(); c++) {
                    for (int d = c + 1; d < two.size(); d++) {
                        V u = one.get(b).minus(one.get(a));
                        V v = two.get(d).minus(two.get(c));
                        Q den = u.cross(v);
                        if (den.sign() != 0) {
                            Q t = two.get(c).minus(one.get(a)).cross(v).over(den);
                            offers.add(one.get(a).plus(u.times(t)));
                        }
                    }
                }
            }
        }
    }

    static V shortestWay(List<V> from, List<V> to) {
        V best = null;
        for (V a : from) {
            for (V b : to) {
                for (V c : to) {
                    V w = nearestOnEdge(b, c, a).minus(a);
                    if (best == null || squared(w).compare(squared(best)) < 0) {
                        best = w;
                    }
                }
            }
        }
        for (V a : to) {
            for (V b : from) {
                for (V c : from) {
                    V w = a.minus(nearestOnEdge(b, c, a));
                    if (squared(w).compare(squared(best)) < 0) {
                        best = w;
                    }
                }
            }
        }
        return best;
    }

    static List<int[]> rowsOf(int n, int r) {
        List<int[]> rows = new ArrayList<>();
        int all = 1;
        for (int i = 0; i < n; i++) {
            all *= r;
        }
        for (int code = 0; code < all; code++) {
            int[] row = new int[n];
            int rest = code;
            for (int i = n - 1; i >= 0; i--) {
                row[i] = rest % r;
                rest /= r;
            }
            int seen = 0;
            boolean fine = true;
            for (int v : row) {
                fine &= v <= seen;
                seen = Math.max(seen, v + 1);
            }
            if (fine && seen == r) {
                rows.add(row);
            }
        }
        return rows;
    }

    /** By half planes whose rim is turned a little off each line to a point. */
    static int depthOf(int x, int y) {
        int best = points.size();
        for (int[] p : points) {
            long vx = p[0] - x;
            long vy = p[1] - y;
            if (vx == 0 && vy == 0) {
                continue;
            }
            for (int turn = -1; turn <= 1; turn++) {
                for (int side = -1; side <= 1; side += 2) {
                    long ux = side * (-vy * 100000 + turn * vx);
                    long uy = side * (vx * 100000 + turn * vy);
                    int in = 0;
                    for (int[] o : points) {
                        in += (o[0] - x) * ux + (o[1] - y) * uy >= 0 ? 1 : 0;
                    }
                    best = Math.min(best, in);
                }
            }
        }
        return best;
    }

    // ---- the object, of which the document promises 512 calls ----

    static final int MOST_CALLS = 512;
    /** What compareBasics calls at most. */
    static final int BASIC_CALLS = 104;
    static RainbowHulls object;
    static int calls;

    /** A new object, and nothing that is told of it. */
    static void begin() {
        object = new RainbowHulls();
        calls = 0;
        points = new ArrayList<>();
        cx = 0;
        cy = 0;
    }

    /** For one call; when all calls are used up, a new object in the same state takes the old one's place. */
    static RainbowHulls x() {
        if (calls >= MOST_CALLS) {
            object = new RainbowHulls();
            calls = 1;
            object.centres(cx, cy);
            for (int i = 0; i < points.size(); i++) {
                int[] p = points.get(i);
                object.adds(p[0], p[1], p[2]);
                object.loads(i, p[3]);
                calls += 2;
            }
        }
        calls++;
        return object;
    }

    // ---- comparing ----

    static int pick(Random random, int low, int high) {
        return low + random.nextInt(high - low + 1);
    }

    static void fill(Random random) {
        int most = random.nextInt(4) == 0 ? 24 : 9;
        int n = random.nextInt(most + 1);
        int[] reaches = {1, 2, 3, 5, 10, 20};
        int reach = reaches[random.nextInt(reaches.length)];
        boolean flat = random.nextInt(4) == 0;
        int tiltX = pick(random, -2, 2);
        int tiltY = pick(random, -2, 2);
        int least = Math.max(1, reach / 2);
        for (int i = 0; i < n; i++) {
            int t = pick(random, -least, least);
            boolean off = !flat || random.nextInt(8) == 0;
            int px = off ? pick(random, -reach, reach) : t * tiltX;
            int py = off ? pick(random, -reach, reach) : t * tiltY;
            int colour = random.nextInt(3);
            due("adds", x().adds(px, py, colour), i);
            points.add(new int[] {px, py, colour, 0});
        }
        int loaded = random.nextInt(9);
        for (int i = 0; i < loaded && n > 0; i++) {
            int p = random.nextInt(n);
            int load = random.nextInt(3) == 0 ? 99 - random.nextInt(5) : random.nextInt(8);
            due("loads", x().loads(p, load), points.get(p)[3]);
            points.get(p)[3] = load;
        }
        int far = Math.min(20, reach + random.nextInt(3));
        cx = flat ? pick(random, -least, least) * tiltX : pick(random, -far, far);
        cy = flat ? tiltX == 0 ? pick(random, -far, far) : cx * tiltY / tiltX : pick(random, -far, far);
        cy = Math.max(-20, Math.min(20, cy));
        due("centres", x().centres(cx, cy), cx == 0 && cy == 0 ? 0 : 1);
        StringBuilder text = new StringBuilder("centre " + cx + " " + cy + ", points");
        for (int[] p : points) {
            text.append(" (").append(p[0]).append(' ').append(p[1]).append(' ').append(p[2]).append(' ')
                .append(p[3]).append(')');
        }
        state = text.toString();
    }

    static int someSet(Random random, int most) {
        int n = points.size();
        if (n == 0 || random.nextInt(12) == 0) {
            int[] strange = {0, -1, Integer.MIN_VALUE, 1 << n, (1 << n) + 1, 1 << 24, Integer.MAX_VALUE};
            return strange[random.nextInt(strange.length)];
        }
        int set = 0;
        int size = pick(random, 1, most);
        for (int i = 0; i < size; i++) {
            set |= 1 << random.nextInt(n);
        }
        return set;
    }

    static void compareBasics() {
        due("count(0)", x().count(0), points.size());
        int[] sets = new int[4];
        for (int i = 0; i < points.size(); i++) {
            int[] p = points.get(i);
            for (int w = 0; w < 4; w++) {
                due("point(" + i + ", " + w + ")", x().point(i, w), p[w]);
            }
            sets[p[2]] |= 1 << i;
            sets[3] |= p[3] > 0 ? 1 << i : 0;
        }
        for (int w = 0; w < 4; w++) {
            due("count(" + (w + 1) + ")", x().count(w + 1), sets[w]);
        }
        due("point(n, 0)", x().point(points.size(), 0), NO);
        due("centre(0)", x().centre(0), cx);
        due("centre(1)", x().centre(1), cy);
    }

    static void compareHull(Random random) {
        int set = someSet(random, 10);
        String s = "(" + set + ", ";
        if (!isSet(set)) {
            due("corners" + s, x().corners(set), -2);
            due("corner" + s, x().corner(set, 0), -2);
            due("area" + s, x().area(set), -2);
            due("places" + s, x().places(set), -2);
            due("where" + s, x().where(set, 0, 0), -2);
            due("holds" + s, x().holds(set), -2);
            due("nearest" + s, x().nearest(set, 0), NO);
            due("line" + s, x().line(set, 0), NO);
            due("tie" + s, x().tie(set, 0), NO);
            due("radon" + s, x().radon(set, 0), NO);
            return;
        }
        List<Integer> corners = cornersOf(set);
        due("corners" + s, x().corners(set), corners.size());
        for (int i = 0; i < corners.size(); i++) {
            due("corner" + s + i, x().corner(set, i), corners.get(i));
        }
        due("corner" + s + "n", x().corner(set, corners.size()), NONE);
        due("corner" + s + "-1", x().corner(set, -1), -2);
        due("area" + s, x().area(set), areaOf(corners).up().longValueExact());
        List<V> list = placesOf(set);
        int px = pick(random, -21, 21);
        int py = pick(random, -21, 21);
        for (int i = 0; i < 4; i++) {
            due("where" + s + px + ", " + py, x().where(set, px, py), isXY(px, py) ? whereIs(set, V.of(px, py)) : -2);
            px = pick(random, -5, 5);
            py = pick(random, -5, 5);
        }
        boolean held = hullHolds(list, centre());
        due("holds" + s, x().holds(set), held ? 1 : 0);
        V n = nearestOf(list, centre());
        Q square = squared(n.minus(centre()));
        long[] told = n.told();
        for (int w = 0; w < 3; w++) {
            due("nearest" + s + w, x().nearest(set, w), told[w]);
        }
        due("nearest" + s + 3, x().nearest(set, 3), square.up().longValueExact());
        due("nearest" + s + 4, x().nearest(set, 4), square.down().longValueExact());
        due("nearest" + s + 5, x().nearest(set, 5), NO);
        long[] way = held ? null : n.minus(centre()).direction();
        due("line" + s + 0, x().line(set, 0), held ? NO : way[0]);
        due("line" + s + 1, x().line(set, 1), held ? NO : way[1]);
        due("line" + s + 2, x().line(set, 2), held ? NO : least(set, way[0], way[1]));
        due("line" + s + 3, x().line(set, 3), NO);
        compareTie(set);
    }

    static void comparePlaces(Random random) {
        int set = someSet(random, 5);
        if (isSet(set)) {
            List<V> list = placesOf(set);
            int all = 0;
            for (int px = -20; px <= 20; px++) {
                for (int py = -20; py <= 20; py++) {
                    all += hullHolds(list, V.of(px, py)) ? 1 : 0;
                }
            }
            due("places(" + set + ")", x().places(set), all);
        }
    }

    static void compareTie(int set) {
        long[] l = tieOf(set);
        String s = "(" + set + ", ";
        for (int p = -1; p <= points.size(); p++) {
            due("tie" + s + p, x().tie(set, p), l == null || !isPoint(p) ? NO : l[p]);
        }
        long[] told = l == null ? null : weighted(l, bits(l, 1)).told();
        for (int w = -1; w < 6; w++) {
            long want = l == null || w < 0 || w > 4 ? NO
                : w == 0 ? bits(l, 1) : w == 1 ? bits(l, -1) : told[w - 2];
            due("radon" + s + w, x().radon(set, w), want);
        }
    }

    static void compareLoads() {
        long[] l = loadRow();
        int set = bits(l, 1);
        long[] told = set == 0 ? null : weighted(l, set).told();
        for (int w = -1; w < 4; w++) {
            due("balance(" + w + ")", x().balance(w), set == 0 || w < 0 || w > 2 ? NO : told[w]);
        }
        if (set == 0 || Integer.bitCount(set) > 6) {
            int refusal = set == 0 ? -2 : -5;
            due("steps()", x().steps(), refusal);
            due("left(0)", x().left(0), refusal);
            due("left(9)", x().left(9), refusal);
            due("left(-1)", x().left(-1), -2);
            due("weight(0, 0, 0)", x().weight(0, 0, 0), NO);
            return;
        }
        List<Q[]> rows = reduction();
        due("steps()", x().steps(), rows.size() - 1);
        for (int k = -1; k <= rows.size(); k++) {
            boolean there = k >= 0 && k < rows.size();
            due("left(" + k + ")", x().left(k), there ? alive(rows.get(k)) : -2);
            for (int p = -1; p <= points.size(); p++) {
                boolean known = there && isPoint(p);
                String s = "weight(" + p + ", " + k + ", ";
                due(s + "-1)", x().weight(p, k, -1), NO);
                due(s + "0)", x().weight(p, k, 0), known ? rows.get(k)[p].up().longValueExact() : NO);
                due(s + "1)", x().weight(p, k, 1), known ? rows.get(k)[p].down().longValueExact() : NO);
                due(s + "2)", x().weight(p, k, 2), NO);
            }
        }
    }

    static void compareRainbows() {
        int held = 0;
        int stuck = 0;
        int longest = 0;
        for (int[] t : allRainbows()) {
            String s = "(" + t[0] + ", " + t[1] + ", " + t[2] + ", ";
            boolean holds = hullHolds(placesOfThree(t), centre());
            if (holds) {
                for (int c = 0; c < 3; c++) {
                    due("rainbow(" + held + ", " + c + ")", x().rainbow(held, c), t[c]);
                }
                held++;
            }
            long[] mixed = holds ? mixtureAtCentre(t) : null;
            for (int w = -1; w < 5; w++) {
                due("mixture" + s + w, x().mixture(t[0], t[1], t[2], w), !holds || w < 0 || w > 3 ? NO : mixed[w]);
            }
            List<int[]> way = wayFrom(t[0], t[1], t[2]);
            int made = way.size() - 1;
            boolean last = hullHolds(placesOfThree(way.get(made)), centre());
            due("exchanges" + s + 0, x().exchanges(t[0], t[1], t[2], 0), made);
            due("exchanges" + s + 1, x().exchanges(t[0], t[1], t[2], 1), last ? 1 : 0);
            due("exchanges" + s + 2, x().exchanges(t[0], t[1], t[2], 2), -2);
            stuck += last ? 0 : 1;
            longest = Math.max(longest, made);
            for (int k = -1; k <= made + 1; k++) {
                boolean there = k >= 0 && k <= made;
                for (int w = -1; w < 5; w++) {
                    due("exchanged" + s + k + ", " + w, x().exchanged(t[0], t[1], t[2], k, w),
                        there && w >= 0 && w < 4 ? way.get(k)[w] : -2);
                }
                Q square = there ? squared(nearestOf(placesOfThree(way.get(k)), centre()).minus(centre())) : null;
                due("distance" + s + k + ", 0", x().distance(t[0], t[1], t[2], k, 0),
                    there ? square.up().longValueExact() : NO);
                due("distance" + s + k + ", 1", x().distance(t[0], t[1], t[2], k, 1),
                    there ? square.down().longValueExact() : NO);
                due("distance" + s + k + ", 2", x().distance(t[0], t[1], t[2], k, 2), NO);
            }
        }
        due("rainbows()", x().rainbows(), held);
        due("rainbow(n, 0)", x().rainbow(held, 0), NONE);
        due("starts(0)", x().starts(0), stuck);
        due("starts(1)", x().starts(1), longest);
    }

    static void compareWrongRainbows(Random random) {
        int r = pick(random, -1, points.size());
        int g = pick(random, -1, points.size());
        int b = pick(random, -1, points.size());
        if (!isRainbow(r, g, b)) {
            String s = "(" + r + ", " + g + ", " + b + ", ";
            due("mixture" + s, x().mixture(r, g, b, 0), NO);
            due("exchanges" + s, x().exchanges(r, g, b, 0), -2);
            due("exchanged" + s, x().exchanged(r, g, b, 0, 0), -2);
            due("distance" + s, x().distance(r, g, b, 0, 0), NO);
        }
    }

    static void compareMeeting(Random random) {
        int one = someSet(random, 5);
        int two = someSet(random, 5);
        String s = "(" + one + ", " + two + ", ";
        if (!isSet(one) || !isSet(two)) {
            due("meet" + s, x().meet(one, two), -2);
            due("meeting" + s, x().meeting(one, two, 0), NO);
            due("apart" + s, x().apart(one, two, 0), NO);
            return;
        }
        V common = leastCommon(List.of(placesOf(one), placesOf(two)));
        due("meet" + s, x().meet(one, two), common == null ? 0 : 1);
        long[] told = common == null ? null : common.told();
        for (int w = -1; w < 4; w++) {
            due("meeting" + s + w, x().meeting(one, two, w), common == null || w < 0 || w > 2 ? NO : told[w]);
        }
        if (common != null) {
            for (int w = -1; w < 6; w++) {
                due("apart" + s + w, x().apart(one, two, w), NO);
            }
            return;
        }
        V way = shortestWay(placesOf(one), placesOf(two));
        long[] d = way.direction();
        long[] wants = {squared(way).up().longValueExact(), squared(way).down().longValueExact(), d[0], d[1],
            least(two, d[0], d[1])};
        for (int w = -1; w < 6; w++) {
            due("apart" + s + w, x().apart(one, two, w), w < 0 || w > 4 ? NO : wants[w]);
        }
    }

    static void comparePartings(Random random, int most) {
        int set = someSet(random, most);
        int r = random.nextInt(8) == 0 ? pick(random, 0, 4) : pick(random, 2, 3);
        String s = "(" + set + ", " + r + ", ";
        if (!isSet(set) || Integer.bitCount(set) > 7 || r < 2 || r > 3) {
            due("partings" + s + 0, x().partings(set, r, 0), -2);
            due("partings" + s + 1, x().partings(set, r, 1), -2);
            due("part" + s + 0, x().part(set, r, 0, 0), -2);
            due("met" + s + 0, x().met(set, r, 0, 0), NO);
            return;
        }
        List<Integer> list = members(set);
        List<int[]> rows = rowsOf(list.size(), r);
        due("partings" + s + 1, x().partings(set, r, 1), rows.size());
        due("partings" + s + 2, x().partings(set, r, 2), -2);
        int k = 0;
        for (int[] row : rows) {
            int[] parts = new int[r];
            for (int i = 0; i < row.length; i++) {
                parts[row[i]] |= 1 << list.get(i);
            }
            List<List<V>> hulls = new ArrayList<>();
            for (int p : parts) {
                hulls.add(placesOf(p));
            }
            V common = leastCommon(hulls);
            if (common == null) {
                continue;
            }
            for (int p = -1; p <= r; p++) {
                due("part" + s + k + ", " + p, x().part(set, r, k, p), p < 0 || p >= r ? -2 : parts[p]);
            }
            long[] told = common.told();
            for (int w = -1; w < 4; w++) {
                due("met" + s + k + ", " + w, x().met(set, r, k, w), w < 0 || w > 2 ? NO : told[w]);
            }
            k++;
        }
        due("partings" + s + 0, x().partings(set, r, 0), k);
        due("part" + s + "n", x().part(set, r, k, 0), NONE);
        due("part" + s + "-1", x().part(set, r, -1, 0), -2);
        due("met" + s + "n", x().met(set, r, k, 0), NO);
        due("met" + s + "-1", x().met(set, r, -1, 0), NO);
    }

    static void compareDepths(Random random) {
        for (int i = 0; i < 5; i++) {
            int reach = i == 0 ? 21 : 4;
            int px = i == 1 ? cx : pick(random, -reach, reach);
            int py = i == 1 ? cy : pick(random, -reach, reach);
            String s = "(" + px + ", " + py + ", ";
            due("depth" + s, x().depth(px, py), isXY(px, py) ? depthOf(px, py) : -2);
            due("triangles" + s + 2, x().triangles(px, py, 2), -2);
            int all = isXY(px, py) ? 0 : -2;
            int mixed = all;
            for (int a = 0; a < points.size() && all >= 0; a++) {
                for (int b = a + 1; b < points.size(); b++) {
                    for (int c = b + 1; c < points.size(); c++) {
                        if (hullHolds(List.of(at(a), at(b), at(c)), V.of(px, py))) {
                            all++;
                            int inks = 1 << points.get(a)[2] | 1 << points.get(b)[2] | 1 << points.get(c)[2];
                            mixed += inks == 7 ? 1 : 0;
                        }
                    }
                }
            }
            due("triangles" + s + 0, x().triangles(px, py, 0), all);
            due("triangles" + s + 1, x().triangles(px, py, 1), mixed);
        }
    }

    static void compareDeepest() {
        int best = -1;
        int bx = 0;
        int by = 0;
        for (int px = -20; px <= 20; px++) {
            for (int py = -20; py <= 20; py++) {
                int d = depthOf(px, py);
                if (d > best) {
                    best = d;
                    bx = px;
                    by = py;
                }
            }
        }
        boolean none = points.isEmpty();
        due("deepest(0)", x().deepest(0), none ? NO : bx);
        due("deepest(1)", x().deepest(1), none ? NO : by);
        due("deepest(2)", x().deepest(2), none ? NO : best);
        due("deepest(3)", x().deepest(3), NO);
    }

    static void compareFrees() {
        if (points.size() > 8) {
            due("frees(0)", x().frees(0), depthOf(cx, cy));
            return;
        }
        int all = (1 << points.size()) - 1;
        int best = all;
        for (int go = 0; go <= all; go++) {
            if (Integer.bitCount(go) < Integer.bitCount(best)
                || Integer.bitCount(go) == Integer.bitCount(best) && go < best) {
                if (!hullHolds(placesOf(all & ~go), centre())) {
                    best = go;
                }
            }
        }
        due("frees(0)", x().frees(0), Integer.bitCount(best));
        due("frees(1)", x().frees(1), best);
    }

    static void change(Random random) {
        int p = pick(random, -1, points.size());
        int px = pick(random, -21, 21);
        int py = pick(random, -21, 21);
        int ink = pick(random, -1, 3);
        int load = pick(random, -1, 100);
        boolean there = isPoint(p);
        switch (random.nextInt(6)) {
            case 0 -> {
                boolean fine = isXY(px, py) && ink >= 0 && ink < 3;
                due("adds", x().adds(px, py, ink), !fine ? -2 : points.size() == 24 ? -5 : points.size());
                if (fine && points.size() < 24) {
                    points.add(new int[] {px, py, ink, 0});
                }
            }
            case 1 -> {
                due("removes", x().removes(p), there ? points.size() - 1 : -2);
                if (there) {
                    points.remove(p);
                }
            }
            case 2 -> {
                boolean fine = there && isXY(px, py);
                int elsewhere = fine && points.get(p)[0] == px && points.get(p)[1] == py ? 0 : 1;
                due("moves", x().moves(p, px, py), fine ? elsewhere : -2);
                if (fine) {
                    points.get(p)[0] = px;
                    points.get(p)[1] = py;
                    due("moves", x().moves(p, px, py), 0);
                }
            }
            case 3 -> {
                boolean fine = there && ink >= 0 && ink < 3;
                due("paints", x().paints(p, ink), fine ? points.get(p)[2] : -2);
                if (fine) {
                    points.get(p)[2] = ink;
                }
            }
            case 4 -> {
                boolean fine = there && load >= 0 && load < 100;
                due("loads", x().loads(p, load), fine ? points.get(p)[3] : -2);
                if (fine) {
                    points.get(p)[3] = load;
                }
            }
            default -> {
                boolean fine = isXY(px, py);
                due("centres", x().centres(px, py), !fine ? -2 : px == cx && py == cy ? 0 : 1);
                if (fine) {
                    cx = px;
                    cy = py;
                }
            }
        }
        compareBasics();
    }

    // ---- texts ----

    static final Pattern TOKEN = Pattern.compile("[a-z]+|[0-9]+|[^ \n]", Pattern.DOTALL);
    static final Pattern TEXT = Pattern.compile("((c-?n-?n|[rgb]-?n-?n(,-?n-?n)*(ln)?);)*");

    /** Fault and its place, told by tokens as one letter each; fills the points if there is none. */
    static int[] readText(String text) {
        StringBuilder kinds = new StringBuilder();
        List<Integer> at = new ArrayList<>();
        List<BigInteger> values = new ArrayList<>();
        Matcher m = TOKEN.matcher(text);
        while (m.find()) {
            String t = m.group();
            at.add(m.start());
            boolean number = Character.isDigit(t.charAt(0)) && t.charAt(0) < 128;
            values.add(number ? new BigInteger(t) : null);
            kinds.append(number ? "n" : List.of("centre", "red", "green", "blue", "load").contains(t)
                ? t.substring(0, 1) : List.of(";", ",", "-").contains(t) ? t : "?");
        }
        int[] fault = {0, Integer.MAX_VALUE};
        List<int[]> told = new ArrayList<>();
        int viable = 0;
        while (viable < kinds.length()) {
            Matcher prefix = TEXT.matcher(kinds.substring(0, viable + 1));
            if (!prefix.matches() && !prefix.hitEnd()) {
                break;
            }
            viable++;
        }
        if (viable < kinds.length()) {
            note(fault, 1, at.get(viable));
        } else if (!TEXT.matcher(kinds).matches()) {
            note(fault, 1, text.length());
        }
        int starts = 0;
        int centres = 0;
        for (int i = 0; i < viable; i++) {
            char kind = kinds.charAt(i);
            char before = i == 0 ? ';' : kinds.charAt(i - 1);
            if (kind == 'n' && values.get(i).compareTo(BigInteger.valueOf(before == 'l' ? 99 : 20)) > 0) {
                note(fault, 2, at.get(i));
            }
            if ("rgb,".indexOf(before) >= 0 && ++starts > 24) {
                note(fault, 3, at.get(i));
            }
            if (kind == 'c' && ++centres > 1) {
                note(fault, 3, at.get(i));
            }
        }
        if (fault[0] == 0) {
            keep(kinds.toString(), values, told);
        }
        return fault[0] == 0 ? new int[] {0, NONE} : fault;
    }

    static void note(int[] fault, int kind, int place) {
        if (place < fault[1] || place == fault[1] && kind < fault[0]) {
            fault[0] = kind;
            fault[1] = place;
        }
    }

    static void keep(String kinds, List<BigInteger> values, List<int[]> told) {
        cx = 0;
        cy = 0;
        int i = 0;
        for (String line : kinds.split(";")) {
            int first = told.size();
            List<Integer> numbers = new ArrayList<>();
            int load = 0;
            for (int k = 0; k < line.length(); k++) {
                if (line.charAt(k) == 'n') {
                    int v = values.get(i + k).intValueExact();
                    if (line.charAt(k - 1) == 'l') {
                        load = v;
                    } else {
                        numbers.add(line.charAt(k - 1) == '-' ? -v : v);
                    }
                }
            }
            i += line.length() + 1;
            if (line.startsWith("c")) {
                cx = numbers.get(0);
                cy = numbers.get(1);
                continue;
            }
            for (int k = 0; k + 1 < numbers.size(); k += 2) {
                told.add(new int[] {numbers.get(k), numbers.get(k + 1), "rgb".indexOf(line.charAt(0)), 0});
            }
            for (int k = first; k < told.size(); k++) {
                told.get(k)[3] = load;
            }
        }
        points = told;
    }

    static String someText(Random random) {
        StringBuilder text = new StringBuilder();
        int lines = random.nextInt(6);
        int slips = random.nextInt(4) == 0 ? 30 : 200;
        for (int i = 0; i < lines; i++) {
            boolean centred = random.nextInt(7) == 0;
            put(text, random, slips, centred ? "centre" : List.of("red", "green", "blue").get(random.nextInt(3)));
            int pairs = centred ? 1 : random.nextInt(3) == 0 ? pick(random, 1, 14) : pick(random, 1, 4);
            for (int k = 0; k < pairs; k++) {
                if (k > 0) {
                    put(text, random, slips, ",");
                }
                for (int z = 0; z < 2; z++) {
                    if (random.nextInt(3) == 0) {
                        put(text, random, slips, "-");
                    }
                    put(text, random, slips, "" + (random.nextInt(slips) == 0 ? 21 : random.nextInt(21)));
                }
            }
            if (!centred && random.nextInt(3) == 0) {
                put(text, random, slips, "load");
                put(text, random, slips, "" + (random.nextInt(slips) == 0 ? 100 : random.nextInt(100)));
            }
            put(text, random, slips, ";");
        }
        return text.toString();
    }

    static void put(StringBuilder text, Random random, int slips, String token) {
        String[] odd = {"", ";", ",", "-", "red", "centre", "load", "20", "21", "R", ".", "00019", "99999999999999999999",
            "reds", "\t", "\0", "\u00e9", "- -", "load 5", "blue 1 1;"};
        if (random.nextInt(slips) == 0) {
            token = odd[random.nextInt(odd.length)];
        }
        char before = text.length() == 0 ? ' ' : text.charAt(text.length() - 1);
        boolean glued = Character.isDigit(before) && token.length() > 0 && Character.isDigit(token.charAt(0));
        if (glued || random.nextInt(3) == 0) {
            text.append(random.nextInt(4) == 0 ? "\n" : " ");
        }
        text.append(token);
    }

    static void compareText(Random random) {
        String text = someText(random);
        if (text.length() > 600) {
            text = text.substring(0, 600);
        }
        state = "text '" + text + "'";
        int has = 0;
        for (int i = 0; i < text.length(); i += 20) {
            int[] five = new int[5];
            for (int k = 0; k < 20; k++) {
                int sign = i + k < text.length() ? text.charAt(i + k) : ' ';
                five[k / 4] = five[k / 4] << 8 | sign;
            }
            has += 20;
            due("feed", x().feed(five[0], five[1], five[2], five[3], five[4]), has);
        }
        due("end", x().end(text.length()), text.length());
        due("count(5)", x().count(5), text.length());
        int[] fault = readText(text);
        due("points()", x().points(), fault[0] == 0 ? points.size() : -4);
        due("fault(0)", x().fault(0), fault[0]);
        due("fault(1)", x().fault(1), fault[1]);
        due("count(5)", x().count(5), 0);
        compareBasics();
    }

    // ---- rounds ----

    static void compareOneState(Random random, int round) {
        begin();
        fill(random);
        compareBasics();
        for (int i = 0; i < 4; i++) {
            compareHull(random);
            compareMeeting(random);
            compareWrongRainbows(random);
        }
        compareLoads();
        if (allRainbows().size() < 60 || round % 50 == 0) {
            compareRainbows();
        }
        comparePartings(random, round % 20 == 0 ? 9 : 5);
        compareDepths(random);
        compareFrees();
        if (round % 5 == 0) {
            comparePlaces(random);
            compareDeepest();
        }
    }

    /** Changes of one object, as many as its calls suffice for: no other one takes its place here. */
    static void compareChanges(Random random, int round) {
        begin();
        if (round % 2 == 0) {
            fill(random);
        }
        state = "changes, round " + round;
        while (calls + 2 + BASIC_CALLS <= MOST_CALLS) {
            change(random);
        }
    }

    /** Texts that one object reads, each behind the state that the one before it left. */
    static void compareTexts(Random random) {
        begin();
        while (calls + 37 + BASIC_CALLS <= MOST_CALLS) {
            compareText(random);
        }
    }

    public static void main(String[] args) {
        long seed = args.length > 0 ? Long.parseLong(args[0]) : 1;
        int rounds = args.length > 1 ? Integer.parseInt(args[1]) : 400;
        Random random = new Random(seed);
        for (int round = 0; round < rounds; round++) {
            compareOneState(random, round);
        }
        for (int round = 0; round < 1000; round++) {
            compareChanges(random, round);
            compareTexts(random);
        }
        System.out.println(wrong == 0 ? "all answers are as due" : wrong + " answers are not as due");
        if (wrong != 0) {
            System.exit(1);
        }
    }
}
