import java.util.ArrayDeque;
import java.util.ArrayList;
import java.util.Arrays;
import java.util.Collections;
import java.util.HashMap;
import java.util.HashSet;
import java.util.List;
import java.util.Map;
import java.util.Set;
import java.util.TreeMap;
import java.util.TreeSet;

/**
 * The document once more, in another way than the class goes: after each change the whole mesh is
 * found anew from any edges that do not cross, flipped till the document allows all of them.
 */
final class Model {
    static final int NONE = -1;

    private State now = new State();
    private List<State> past = new ArrayList<>();
    private State image;
    private List<State> imagePast;

    Model() {
        now.points.put(0, new int[] {-1000, -1000, 0});
        now.points.put(1, new int[] {1000, -1000, 0});
        now.points.put(2, new int[] {1000, 1000, 0});
        now.points.put(3, new int[] {-1000, 1000, 0});
        for (int k = 0; k < 4; k++) {
            now.fixed.add(pair(k, (k + 1) % 4));
        }
        image();
    }

    /** What a state is; its mesh is found when it is asked for. */
    private static final class State {
        final TreeMap<Integer, int[]> points = new TreeMap<>();
        final TreeSet<Integer> fixed = new TreeSet<>();
        final List<int[]> holes = new ArrayList<>();
        int g = 313;
        private TreeSet<Integer> edges;
        private List<int[]> triangles;

        State copy() {
            State s = new State();
            for (Map.Entry<Integer, int[]> e : points.entrySet()) {
                s.points.put(e.getKey(), e.getValue().clone());
            }
            s.fixed.addAll(fixed);
            s.holes.addAll(holes);
            s.g = g;
            s.edges = edges;
            s.triangles = triangles;
            return s;
        }

        void changed() {
            edges = null;
            triangles = null;
        }

        TreeSet<Integer> edges() {
            if (edges == null) {
                mesh();
            }
            return edges;
        }

        List<int[]> triangles() {
            if (triangles == null) {
                mesh();
            }
            return triangles;
        }

        private void mesh() {
            edges = new TreeSet<>(fixed);
            for (int a : points.keySet()) {
                for (int b : points.keySet()) {
                    if (a < b && !edges.contains(pair(a, b)) && clear(a, b)) {
                        edges.add(pair(a, b));
                    }
                }
            }
            boolean flipped = true;
            while (flipped) {
                flipped = false;
                for (int e : new ArrayList<>(edges)) {
                    int a = e / 100;
                    int b = e % 100;
                    if (fixed.contains(e)) {
                        continue;
                    }
                    int c = apex(a, b);
                    int d = apex(b, a);
                    if (!allowed(a, b, c, d)) {
                        edges.remove(e);
                        edges.add(pair(c, d));
                        flipped = true;
                    }
                }
            }
            triangles = new ArrayList<>();
            for (int a : points.keySet()) {
                for (int b : points.keySet()) {
                    if (b > a && edges.contains(pair(a, b))) {
                        int c = apex(a, b);
                        if (c > a) {
                            triangles.add(new int[] {a, b, c});
                        }
                    }
                }
            }
        }

        private boolean clear(int a, int b) {
            for (int p : points.keySet()) {
                if (between(a, b, p)) {
                    return false;
                }
            }
            for (int e : edges) {
                if (cross(a, b, e / 100, e % 100)) {
                    return false;
                }
            }
            return true;
        }

        /** The corner to the left of a and b whose triangle has no other point in it. */
        int apex(int a, int b) {
            int found = NONE;
            for (int c : points.keySet()) {
                if (c == a || c == b || !edges.contains(pair(a, c)) || !edges.contains(pair(b, c))
                        || turn(a, b, c) <= 0) {
                    continue;
                }
                boolean empty = true;
                for (int p : points.keySet()) {
                    if (p != a && p != b && p != c
                            && turn(a, b, p) >= 0 && turn(b, c, p) >= 0 && turn(c, a, p) >= 0) {
                        empty = false;
                    }
                }
                if (empty) {
                    found = c;
                }
            }
            return found;
        }

        boolean allowed(int a, int b, int c, int d) {
            long in = inCircle(points.get(a), points.get(b), points.get(c), points.get(d));
            if (in != 0) {
                return in < 0;
            }
            int first = a;
            for (int p : new int[] {b, c, d}) {
                int[] q = points.get(p);
                int[] f = points.get(first);
                if (q[0] < f[0] || q[0] == f[0] && q[1] < f[1]) {
                    first = p;
                }
            }
            return first == a || first == b;
        }

        long turn(int a, int b, int c) {
            return orient(points.get(a), points.get(b), points.get(c));
        }

        boolean between(int a, int b, int p) {
            if (p == a || p == b || turn(a, b, p) != 0) {
                return false;
            }
            int[] s = points.get(a);
            int[] t = points.get(b);
            int[] q = points.get(p);
            return Math.min(s[0], t[0]) <= q[0] && q[0] <= Math.max(s[0], t[0])
                    && Math.min(s[1], t[1]) <= q[1] && q[1] <= Math.max(s[1], t[1]);
        }

        boolean cross(int a, int b, int c, int d) {
            return crossing(points.get(a), points.get(b), points.get(c), points.get(d));
        }

        int at(int x, int y) {
            for (int p : points.keySet()) {
                if (points.get(p)[0] == x && points.get(p)[1] == y) {
                    return p;
                }
            }
            return NONE;
        }

        int unused() {
            for (int p = 4; p < 40; p++) {
                if (!points.containsKey(p)) {
                    return p;
                }
            }
            return NONE;
        }

        boolean takes(int x, int y) {
            return square(x, y) && at(x, y) == NONE && unused() != NONE;
        }

        void put(int p, int x, int y, int height) {
            points.put(p, new int[] {x, y, height});
            for (int e : new ArrayList<>(fixed)) {
                if (between(e / 100, e % 100, p)) {
                    fixed.remove(e);
                    fixed.add(pair(e / 100, p));
                    fixed.add(pair(p, e % 100));
                }
            }
            changed();
        }

        int tell(int x, int y) {
            if (!takes(x, y)) {
                return NONE;
            }
            int p = unused();
            put(p, x, y, 0);
            return p;
        }

        boolean loose(int p) {
            if (!points.containsKey(p)) {
                return false;
            }
            for (int e : fixed) {
                if (e / 100 == p || e % 100 == p) {
                    return false;
                }
            }
            return true;
        }

        void takeOut(int p) {
            points.remove(p);
            changed();
        }

        void shift(int p, int x, int y) {
            int height = points.get(p)[2];
            takeOut(p);
            put(p, x, y, height);
        }

        boolean border(int e) {
            edges();
            return apex(e / 100, e % 100) == NONE || apex(e % 100, e / 100) == NONE;
        }

        boolean sees(int a, int b) {
            if (!points.containsKey(a) || !points.containsKey(b) || a == b) {
                return false;
            }
            for (int p : points.keySet()) {
                if (between(a, b, p)) {
                    return false;
                }
            }
            for (int e : fixed) {
                if (cross(a, b, e / 100, e % 100)) {
                    return false;
                }
            }
            return true;
        }

        boolean canFix(int a, int b) {
            return sees(a, b) && !fixed.contains(pair(a, b));
        }

        boolean canFree(int a, int b) {
            return points.containsKey(a) && points.containsKey(b) && a != b && fixed.contains(pair(a, b))
                    && edges().contains(pair(a, b)) && !border(pair(a, b));
        }

        long squareOf(int e) {
            return dist(points.get(e / 100), points.get(e % 100));
        }

        boolean holds(int t, int x, int y) {
            int[] place = {x, y};
            for (int k = 0; k < 3; k++) {
                if (sideOf(t, k, place) < 0) {
                    return false;
                }
            }
            return true;
        }

        long sideOf(int t, int k, int[] place) {
            int[] c = triangles().get(t);
            return orient(points.get(c[k]), points.get(c[(k + 1) % 3]), place);
        }

        int in(int x, int y) {
            if (!square(x, y)) {
                return NONE;
            }
            for (int t = 0; t < triangles().size(); t++) {
                if (holds(t, x, y)) {
                    return t;
                }
            }
            throw new IllegalStateException("the mesh has a gap");
        }

        int find(int a, int b, int c) {
            Set<Integer> want = new HashSet<>(Arrays.asList(a, b, c));
            for (int t = 0; t < triangles().size(); t++) {
                int[] own = triangles().get(t);
                if (want.size() == 3 && want.equals(new HashSet<>(Arrays.asList(own[0], own[1], own[2])))) {
                    return t;
                }
            }
            return NONE;
        }

        int beyond(int t, int k) {
            int[] c = triangles().get(t);
            int a = c[k];
            int b = c[(k + 1) % 3];
            for (int o = 0; o < triangles().size(); o++) {
                int[] own = triangles().get(o);
                for (int j = 0; j < 3; j++) {
                    if (own[j] == b && own[(j + 1) % 3] == a) {
                        return o;
                    }
                }
            }
            return NONE;
        }

        boolean open(int t, int k) {
            int[] c = triangles().get(t);
            return !fixed.contains(pair(c[k], c[(k + 1) % 3]));
        }

        TreeSet<Integer> near(int p) {
            TreeSet<Integer> found = new TreeSet<>();
            for (int e : edges()) {
                if (e / 100 == p) {
                    found.add(e % 100);
                } else if (e % 100 == p) {
                    found.add(e / 100);
                }
            }
            return found;
        }

        List<Integer> star(int p) {
            edges();
            List<Integer> all = new ArrayList<>(near(p));
            int[] own = points.get(p);
            // by quarter turns and orientation, no rounding: against the clock from straight right on
            all.sort((a, b) -> {
                int ha = half(own, points.get(a));
                int hb = half(own, points.get(b));
                return ha != hb ? Integer.compare(ha, hb)
                        : Long.compare(0, orient(own, points.get(a), points.get(b)));
            });
            int start = all.indexOf(Collections.min(all));
            for (int k = 0; k < all.size(); k++) {
                // the one that has the outside to its right
                if (apex(all.get(k), p) == NONE) {
                    start = k;
                }
            }
            Collections.rotate(all, -start);
            return all;
        }

        Map<Integer, Integer> counts(int from) {
            Map<Integer, Integer> far = new HashMap<>();
            ArrayDeque<Integer> queue = new ArrayDeque<>();
            far.put(from, 0);
            queue.add(from);
            while (!queue.isEmpty()) {
                int p = queue.poll();
                for (int q : near(p)) {
                    if (!far.containsKey(q)) {
                        far.put(q, far.get(p) + 1);
                        queue.add(q);
                    }
                }
            }
            return far;
        }

        int[] parts() {
            int n = triangles().size();
            int[] part = new int[n];
            Arrays.fill(part, NONE);
            int count = 0;
            for (int t = 0; t < n; t++) {
                if (part[t] != NONE) {
                    continue;
                }
                part[t] = count;
                boolean more = true;
                while (more) {
                    more = false;
                    for (int u = 0; u < n; u++) {
                        for (int k = 0; k < 3; k++) {
                            int v = beyond(u, k);
                            if (part[u] == count && v != NONE && open(u, k) && part[v] == NONE) {
                                part[v] = count;
                                more = true;
                            }
                        }
                    }
                }
                count++;
            }
            return part;
        }

        int regions() {
            int most = 0;
            for (int p : parts()) {
                most = Math.max(most, p + 1);
            }
            return most;
        }

        int holesIn(int region) {
            int[] part = parts();
            int count = 0;
            for (int[] h : holes) {
                if (part[in(h[0], h[1])] == region) {
                    count++;
                }
            }
            return count;
        }

        long area(int t) {
            int[] c = triangles().get(t);
            return turn(c[0], c[1], c[2]);
        }

        int thinnest() {
            int best = 0;
            for (int t = 1; t < triangles().size(); t++) {
                if (area(t) * longestSquare(best) < area(best) * longestSquare(t)) {
                    best = t;
                }
            }
            return best;
        }

        long longestSquare(int t) {
            int[] c = triangles().get(t);
            return Math.max(squareOf(pair(c[0], c[1])),
                    Math.max(squareOf(pair(c[1], c[2])), squareOf(pair(c[0], c[2]))));
        }

        Map<Integer, Integer> colours() {
            Map<Integer, Integer> found = new HashMap<>();
            for (int p : points.keySet()) {
                Set<Integer> used = new HashSet<>();
                for (int q : near(p)) {
                    if (q < p) {
                        used.add(found.get(q));
                    }
                }
                int c = 0;
                while (used.contains(c)) {
                    c++;
                }
                found.put(p, c);
            }
            return found;
        }

        int angles(int sign) {
            int count = 0;
            for (int[] c : triangles()) {
                for (int k = 0; k < 3; k++) {
                    int[] p = points.get(c[k]);
                    int[] q = points.get(c[(k + 1) % 3]);
                    int[] r = points.get(c[(k + 2) % 3]);
                    long dot = (long) (q[0] - p[0]) * (r[0] - p[0]) + (long) (q[1] - p[1]) * (r[1] - p[1]);
                    if (Long.signum(dot) == sign) {
                        count++;
                    }
                }
            }
            return count;
        }

        List<Integer> bent() {
            edges();
            List<Integer> found = new ArrayList<>();
            for (int e : fixed) {
                int a = e / 100;
                int b = e % 100;
                if (!border(e) && !allowed(a, b, apex(a, b), apex(b, a))) {
                    found.add(e);
                }
            }
            return found;
        }

        Set<String> names() {
            Set<String> found = new HashSet<>();
            for (int[] c : triangles()) {
                found.add(Arrays.toString(c));
            }
            return found;
        }
    }

    // ---- plain geometry

    static int pair(int a, int b) {
        return a < b ? 100 * a + b : 100 * b + a;
    }

    static boolean square(int x, int y) {
        return x >= -1000 && x <= 1000 && y >= -1000 && y <= 1000;
    }

    static long orient(int[] a, int[] b, int[] c) {
        return (long) (b[0] - a[0]) * (c[1] - a[1]) - (long) (b[1] - a[1]) * (c[0] - a[0]);
    }

    static boolean crossing(int[] a, int[] b, int[] c, int[] d) {
        return Long.signum(orient(a, b, c)) * Long.signum(orient(a, b, d)) < 0
                && Long.signum(orient(c, d, a)) * Long.signum(orient(c, d, b)) < 0;
    }

    static long dist(int[] a, int[] b) {
        long dx = a[0] - b[0];
        long dy = a[1] - b[1];
        return dx * dx + dy * dy;
    }

    static int half(int[] own, int[] p) {
        return p[1] > own[1] || p[1] == own[1] && p[0] > own[0] ? 0 : 1;
    }

    /** Above 0: d lies inside of the circle through a, b, c, by the centre as a fraction. */
    static long inCircle(int[] a, int[] b, int[] c, int[] d) {
        long bx = b[0] - a[0];
        long by = b[1] - a[1];
        long cx = c[0] - a[0];
        long cy = c[1] - a[1];
        long dx = d[0] - a[0];
        long dy = d[1] - a[1];
        long twice = 2 * (bx * cy - by * cx);
        long ux = cy * (bx * bx + by * by) - by * (cx * cx + cy * cy);
        long uy = bx * (cx * cx + cy * cy) - cx * (bx * bx + by * by);
        // |d|^2 - 2 d.u / twice < 0 inside
        long value = twice * (dx * dx + dy * dy) - 2 * (dx * ux + dy * uy);
        return -Long.signum(value) * Long.signum(twice);
    }

    private void step() {
        past.add(now.copy());
        if (past.size() > 20) {
            past.remove(0);
        }
    }

    // ---- the face

    public int point(int x, int y) {
        if (!now.takes(x, y)) {
            return NONE;
        }
        step();
        return now.tell(x, y);
    }

    public boolean drop(int point) {
        if (!now.loose(point)) {
            return false;
        }
        step();
        now.takeOut(point);
        return true;
    }

    public boolean move(int point, int x, int y) {
        if (!now.loose(point) || !square(x, y) || now.at(x, y) != NONE) {
            return false;
        }
        step();
        now.shift(point, x, y);
        return true;
    }

    public boolean fix(int point, int other) {
        if (!now.canFix(point, other)) {
            return false;
        }
        step();
        now.fixed.add(pair(point, other));
        now.changed();
        return true;
    }

    public boolean free(int point, int other) {
        if (!now.canFree(point, other)) {
            return false;
        }
        step();
        now.fixed.remove(pair(point, other));
        now.changed();
        return true;
    }

    public int drawn(int n, int within) {
        if (n < 1 || n > 20 || within < 1 || within > 1000) {
            return NONE;
        }
        step();
        int came = 0;
        for (int k = 0; k < n; k++) {
            now.g = (now.g * 827 + 641) % 30047;
            int x = now.g % (2 * within + 1) - within;
            now.g = (now.g * 827 + 641) % 30047;
            int y = now.g % (2 * within + 1) - within;
            came += now.tell(x, y) == NONE ? 0 : 1;
        }
        return came;
    }

    public boolean height(int point, int height) {
        if (!now.points.containsKey(point) || height < -9999 || height > 9999) {
            return false;
        }
        step();
        now.points.get(point)[2] = height;
        return true;
    }

    public int refine(int n) {
        if (n < 1 || n > 10) {
            return NONE;
        }
        step();
        int came = 0;
        while (came < n) {
            int t = now.thinnest();
            int[] c = now.triangles().get(t);
            int k = 0;
            while (now.squareOf(pair(c[k], c[(k + 1) % 3])) != now.longestSquare(t)) {
                k++;
            }
            int[] p = now.points.get(c[k]);
            int[] q = now.points.get(c[(k + 1) % 3]);
            if (now.tell((p[0] + q[0]) >> 1, (p[1] + q[1]) >> 1) == NONE) {
                break;
            }
            came++;
        }
        return came;
    }

    public int smooth() {
        step();
        int moved = 0;
        for (int p = 4; p < 40; p++) {
            if (now.loose(p)) {
                long x = 0;
                long y = 0;
                Set<Integer> star = now.near(p);
                for (int q : star) {
                    x += now.points.get(q)[0];
                    y += now.points.get(q)[1];
                }
                int newX = (int) Math.floor((double) x / star.size());
                int newY = (int) Math.floor((double) y / star.size());
                if (now.at(newX, newY) == NONE) {
                    now.shift(p, newX, newY);
                    moved++;
                }
            }
        }
        return moved;
    }

    public int hole(int x, int y) {
        if (!square(x, y) || now.holes.size() == 8) {
            return NONE;
        }
        step();
        now.holes.add(new int[] {x, y});
        return now.holes.size();
    }

    public int fill() {
        if (now.holes.isEmpty()) {
            return NONE;
        }
        step();
        now.holes.remove(now.holes.size() - 1);
        return now.holes.size();
    }

    public boolean tell(int x) {
        if (x < 0 || x > 30046) {
            return false;
        }
        now.g = x;
        return true;
    }

    public int undo() {
        if (past.isEmpty()) {
            return NONE;
        }
        now = past.remove(past.size() - 1);
        return past.size();
    }

    public int steps() {
        return past.size();
    }

    public int image() {
        image = now.copy();
        imagePast = new ArrayList<>();
        for (State s : past) {
            imagePast.add(s.copy());
        }
        return now.points.size();
    }

    public int back() {
        now = image.copy();
        past = new ArrayList<>();
        for (State s : imagePast) {
            past.add(s.copy());
        }
        return now.points.size();
    }

    public int is(int what) {
        int hollow = 0;
        switch (what) {
            case 0: return now.points.size();
            case 1: return now.triangles().size();
            case 2: return now.edges().size();
            case 3: return now.fixed.size();
            case 4:
                int border = 0;
                for (int e : now.fixed) {
                    border += now.border(e) ? 1 : 0;
                }
                return border;
            case 5: return now.regions();
            case 6: return now.g;
            case 7: return now.bent().size();
            case 8: return now.holes.size();
            case 9:
                for (int r = 0; r < now.regions(); r++) {
                    hollow += now.holesIn(r) > 0 ? 1 : 0;
                }
                return hollow;
            case 10: return now.angles(-1);
            case 11: return now.angles(0);
            case 12: return Collections.max(now.colours().values()) + 1;
            default: return NONE;
        }
    }

    public int of(int point, int what) {
        int[] p = now.points.get(point);
        if (p == null) {
            return what == 0 || what == 1 || what == 5 ? -100000 : NONE;
        }
        int count = 0;
        int border = 0;
        for (int e : now.fixed) {
            if (e / 100 == point || e % 100 == point) {
                count++;
                if (now.border(e)) {
                    border = 1;
                }
            }
        }
        switch (what) {
            case 0: return p[0];
            case 1: return p[1];
            case 2: return now.near(point).size();
            case 3: return count;
            case 4: return border;
            case 5: return p[2];
            default: return NONE;
        }
    }

    public int at(int x, int y) {
        return now.at(x, y);
    }

    private boolean there(int t) {
        return t >= 0 && t < now.triangles().size();
    }

    public int corner(int i, int k) {
        return there(i) && k >= 0 && k <= 2 ? now.triangles().get(i)[k] : NONE;
    }

    public int beyond(int i, int k) {
        return there(i) && k >= 0 && k <= 2 ? now.beyond(i, k) : NONE;
    }

    public int area(int i) {
        return there(i) ? (int) now.area(i) : NONE;
    }

    public int triangle(int a, int b, int c) {
        return now.find(a, b, c);
    }

    public boolean isEdge(int point, int other) {
        return now.points.containsKey(point) && now.near(point).contains(other);
    }

    public boolean isFixed(int point, int other) {
        return now.points.containsKey(point) && now.points.containsKey(other) && now.fixed.contains(pair(point, other));
    }

    public int in(int x, int y) {
        return now.in(x, y);
    }

    public int lies(int x, int y) {
        if (!square(x, y)) {
            return 0;
        }
        if (now.at(x, y) != NONE) {
            return 3;
        }
        int t = now.in(x, y);
        int[] place = {x, y};
        return now.sideOf(t, 0, place) == 0 || now.sideOf(t, 1, place) == 0 || now.sideOf(t, 2, place) == 0 ? 2 : 1;
    }

    public int walk(int i, int x, int y, int what) {
        if (!there(i) || !square(x, y) || what < 0 || what > 2) {
            return NONE;
        }
        List<Integer> walked = new ArrayList<>();
        int t = i;
        while (t != NONE) {
            walked.add(t);
            int next = NONE;
            for (int k = 2; k >= 0; k--) {
                int b = now.beyond(t, k);
                if (b != NONE && !walked.contains(b) && now.sideOf(t, k, new int[] {x, y}) < 0) {
                    next = b;
                }
            }
            t = next;
        }
        int last = walked.get(walked.size() - 1);
        return what == 0 ? last : what == 1 ? walked.size() - 1 : now.holds(last, x, y) ? 1 : 0;
    }

    public int star(int point, int i) {
        if (!now.points.containsKey(point)) {
            return NONE;
        }
        List<Integer> all = now.star(point);
        return i >= 0 && i < all.size() ? all.get(i) : NONE;
    }

    public long ring(int point, int k) {
        long bits = 0;
        if (now.points.containsKey(point)) {
            for (Map.Entry<Integer, Integer> e : now.counts(point).entrySet()) {
                if (e.getValue() == k) {
                    bits |= 1L << e.getKey();
                }
            }
        }
        return bits;
    }

    public int crossed(int point, int other) {
        if (!now.points.containsKey(point) || !now.points.containsKey(other) || point == other) {
            return NONE;
        }
        int count = 0;
        for (int e : now.edges()) {
            count += now.cross(point, other, e / 100, e % 100) ? 1 : 0;
        }
        return count;
    }

    public boolean sees(int point, int other) {
        return now.sees(point, other);
    }

    public long seen(int point) {
        long bits = 0;
        for (int p : now.points.keySet()) {
            bits |= now.sees(point, p) ? 1L << p : 0;
        }
        return bits;
    }

    public int region(int i) {
        return there(i) ? now.parts()[i] : NONE;
    }

    public int ofRegion(int region, int what) {
        if (region < 0 || region >= now.regions() || what < 0 || what > 4) {
            return NONE;
        }
        int size = 0;
        long area = 0;
        Set<Integer> points = new HashSet<>();
        int[] part = now.parts();
        for (int t = 0; t < part.length; t++) {
            if (part[t] == region) {
                size++;
                area += now.area(t);
                for (int c : now.triangles().get(t)) {
                    points.add(c);
                }
            }
        }
        int holes = now.holesIn(region);
        return what == 0 ? size : what == 1 ? (int) area : what == 2 ? Math.min(holes, 1)
                : what == 3 ? holes : points.size();
    }

    public int nearest(int x, int y) {
        int best = NONE;
        if (square(x, y)) {
            for (int p : now.points.keySet()) {
                int[] place = {x, y};
                if (best == NONE || dist(place, now.points.get(p)) < dist(place, now.points.get(best))) {
                    best = p;
                }
            }
        }
        return best;
    }

    public int length(int what) {
        TreeSet<Long> squares = new TreeSet<>();
        for (int e : now.edges()) {
            squares.add(now.squareOf(e));
        }
        return what == 0 ? (int) (long) squares.first() : what == 1 ? (int) (long) squares.last() : NONE;
    }

    public int busiest(int what) {
        int best = 0;
        for (int p : now.points.keySet()) {
            int more = now.near(p).size() - now.near(best).size();
            if (what == 0 ? more > 0 : more < 0) {
                best = p;
            }
        }
        return what == 0 || what == 1 ? best : NONE;
    }

    public int tree(int i, int what) {
        List<Integer> edges = new ArrayList<>(now.edges());
        edges.sort((a, b) -> now.squareOf(a) != now.squareOf(b)
                ? Long.compare(now.squareOf(a), now.squareOf(b)) : Integer.compare(a, b));
        List<Set<Integer>> parts = new ArrayList<>();
        for (int p : now.points.keySet()) {
            parts.add(new HashSet<>(List.of(p)));
        }
        List<Integer> taken = new ArrayList<>();
        for (int e : edges) {
            Set<Integer> one = null;
            Set<Integer> other = null;
            for (Set<Integer> part : parts) {
                one = part.contains(e / 100) ? part : one;
                other = part.contains(e % 100) ? part : other;
            }
            if (one != other) {
                one.addAll(other);
                List<Set<Integer>> rest = new ArrayList<>();
                for (Set<Integer> part : parts) {
                    if (part != other) {
                        rest.add(part);
                    }
                }
                parts = rest;
                taken.add(e);
            }
        }
        if (i == NONE) {
            return what == 0 ? taken.size() : NONE;
        }
        if (i < 0 || i >= taken.size() || what < 0 || what > 2) {
            return NONE;
        }
        int e = taken.get(i);
        return what == 0 ? e / 100 : what == 1 ? e % 100 : (int) now.squareOf(e);
    }

    /** The best way by cost, then by numbers, of all that Bellman's rule finds. */
    private List<Integer> best(int from, int to, boolean counted, long[] cost) {
        Map<Integer, List<Integer>> ways = new HashMap<>();
        Map<Integer, Long> costs = new HashMap<>();
        ways.put(from, List.of(from));
        costs.put(from, 0L);
        boolean better = true;
        while (better) {
            better = false;
            for (int e : now.edges()) {
                for (int turn = 0; turn < 2; turn++) {
                    int p = turn == 0 ? e / 100 : e % 100;
                    int q = turn == 0 ? e % 100 : e / 100;
                    if (!ways.containsKey(p)) {
                        continue;
                    }
                    long sum = costs.get(p) + (counted ? 1 : (long) Math.sqrt(now.squareOf(e)));
                    List<Integer> way = new ArrayList<>(ways.get(p));
                    way.add(q);
                    if (!ways.containsKey(q) || sum < costs.get(q)
                            || sum == costs.get(q) && less(way, ways.get(q))) {
                        ways.put(q, way);
                        costs.put(q, sum);
                        better = true;
                    }
                }
            }
        }
        cost[0] = costs.get(to);
        return ways.get(to);
    }

    private static boolean less(List<Integer> a, List<Integer> b) {
        for (int k = 0; k < Math.min(a.size(), b.size()); k++) {
            if (!a.get(k).equals(b.get(k))) {
                return a.get(k) < b.get(k);
            }
        }
        return a.size() < b.size();
    }

    private int along(int point, int other, int i, boolean counted) {
        if (!now.points.containsKey(point) || !now.points.containsKey(other)) {
            return NONE;
        }
        long[] cost = new long[1];
        List<Integer> way = best(point, other, counted, cost);
        return i == NONE ? (int) cost[0] : i >= 0 && i < way.size() ? way.get(i) : NONE;
    }

    public int way(int point, int other, int i) {
        return along(point, other, i, true);
    }

    public int shortest(int point, int other, int i) {
        return along(point, other, i, false);
    }

    public int bent(int i) {
        List<Integer> bent = now.bent();
        return i >= 0 && i < bent.size() ? bent.get(i) : NONE;
    }

    public int thinnest() {
        return now.thinnest();
    }

    public int circle(int i, int x, int y) {
        if (!there(i) || !square(x, y)) {
            return -2;
        }
        int[] c = now.triangles().get(i);
        return (int) inCircle(now.points.get(c[0]), now.points.get(c[1]), now.points.get(c[2]), new int[] {x, y});
    }

    public int colour(int point) {
        return now.points.containsKey(point) ? now.colours().get(point) : NONE;
    }

    public int centre(int what) {
        int best = NONE;
        int least = 1000;
        for (int p : now.points.keySet()) {
            int far = Collections.max(now.counts(p).values());
            if (far < least) {
                best = p;
                least = far;
            }
        }
        return what == 0 ? best : what == 1 ? least : NONE;
    }

    public int cut(int x, int y, int toX, int toY) {
        if (!square(x, y) || !square(toX, toY)) {
            return NONE;
        }
        int count = 0;
        for (int e : now.edges()) {
            count += crossing(new int[] {x, y}, new int[] {toX, toY},
                    now.points.get(e / 100), now.points.get(e % 100)) ? 1 : 0;
        }
        return count;
    }

    public int fresh() {
        Set<String> names = now.names();
        names.removeAll(image.names());
        return names.size();
    }

    public int firm() {
        int sum = 0;
        for (int r = 0; r < now.regions(); r++) {
            sum += now.holesIn(r) == 0 ? ofRegion(r, 1) : 0;
        }
        return sum;
    }

    public int heightAt(int x, int y) {
        int t = now.in(x, y);
        if (t == NONE) {
            return -100000;
        }
        int[] c = now.triangles().get(t);
        int[] place = {x, y};
        long sum = now.sideOf(t, 1, place) * now.points.get(c[0])[2]
                + now.sideOf(t, 2, place) * now.points.get(c[1])[2]
                + now.sideOf(t, 0, place) * now.points.get(c[2])[2];
        long area = now.area(t);
        long whole = sum / area;
        return (int) (whole * area > sum ? whole - 1 : whole);
    }

    public int level(int height) {
        int count = 0;
        for (int e : now.edges()) {
            int a = now.points.get(e / 100)[2];
            int b = now.points.get(e % 100)[2];
            count += Math.max(a, b) > height && Math.min(a, b) <= height ? 1 : 0;
        }
        return count;
    }

    public int drain(int point, int what) {
        if (!now.points.containsKey(point) || what < 0 || what > 1) {
            return NONE;
        }
        int p = point;
        int count = 0;
        while (true) {
            int low = p;
            for (int q : now.near(p)) {
                low = now.points.get(q)[2] < now.points.get(low)[2] ? q : low;
            }
            if (low == p) {
                return what == 0 ? p : count;
            }
            p = low;
            count++;
        }
    }

    public long volume() {
        long sum = 0;
        for (int t = 0; t < now.triangles().size(); t++) {
            for (int c : now.triangles().get(t)) {
                sum += now.area(t) * now.points.get(c)[2];
            }
        }
        return sum;
    }

    public int passage(int x, int y, int toX, int toY, int i) {
        if (!square(x, y) || !square(toX, toY)) {
            return NONE;
        }
        int from = now.in(x, y);
        int to = now.in(toX, toY);
        Map<Integer, List<Integer>> ways = new HashMap<>();
        ways.put(from, List.of(from));
        boolean better = true;
        while (better) {
            better = false;
            for (int t : new ArrayList<>(ways.keySet())) {
                for (int k = 0; k < 3; k++) {
                    int u = now.beyond(t, k);
                    if (u == NONE || !now.open(t, k)) {
                        continue;
                    }
                    List<Integer> way = new ArrayList<>(ways.get(t));
                    way.add(u);
                    List<Integer> old = ways.get(u);
                    if (old == null || way.size() < old.size() || way.size() == old.size() && less(way, old)) {
                        ways.put(u, way);
                        better = true;
                    }
                }
            }
        }
        List<Integer> way = ways.get(to);
        if (way == null) {
            return NONE;
        }
        return i == NONE ? way.size() - 1 : i >= 0 && i < way.size() ? way.get(i) : NONE;
    }

    public int hull(int i) {
        List<Integer> all = new ArrayList<>();
        for (int p : now.points.keySet()) {
            if (p >= 4) {
                all.add(p);
            }
        }
        all.sort((a, b) -> {
            int[] p = now.points.get(a);
            int[] q = now.points.get(b);
            return p[0] != q[0] ? Integer.compare(p[0], q[0]) : Integer.compare(p[1], q[1]);
        });
        List<Integer> hull = new ArrayList<>(chain(all));
        Collections.reverse(all);
        List<Integer> upper = chain(all);
        for (int k = 1; k + 1 < upper.size(); k++) {
            hull.add(upper.get(k));
        }
        return i == NONE ? hull.size() : i >= 0 && i < hull.size() ? hull.get(i) : NONE;
    }

    private List<Integer> chain(List<Integer> all) {
        List<Integer> kept = new ArrayList<>();
        for (int p : all) {
            while (kept.size() > 1 && now.turn(kept.get(kept.size() - 2), kept.get(kept.size() - 1), p) <= 0) {
                kept.remove(kept.size() - 1);
            }
            kept.add(p);
        }
        return kept;
    }

    private int more(State would) {
        Set<String> names = would.names();
        names.removeAll(now.names());
        return names.size();
    }

    public int wouldPoint(int x, int y) {
        State would = now.copy();
        return would.tell(x, y) == NONE ? NONE : more(would);
    }

    public int wouldDrop(int point) {
        if (!now.loose(point)) {
            return NONE;
        }
        State would = now.copy();
        would.takeOut(point);
        return more(would);
    }

    public int wouldFix(int point, int other) {
        if (!now.canFix(point, other)) {
            return NONE;
        }
        State would = now.copy();
        would.fixed.add(pair(point, other));
        would.changed();
        return more(would);
    }

    public int wouldFree(int point, int other) {
        if (!now.canFree(point, other)) {
            return NONE;
        }
        State would = now.copy();
        would.fixed.remove(pair(point, other));
        would.changed();
        return more(would);
    }

    public long mean() {
        long sum = 0;
        for (int e : now.edges()) {
            sum += now.squareOf(e);
        }
        return Double.doubleToLongBits((double) sum / (double) now.edges().size());
    }

    // ---- for the runs of calls

    List<Integer> numbers() {
        return new ArrayList<>(now.points.keySet());
    }

    List<Integer> fixedOnes() {
        return new ArrayList<>(now.fixed);
    }

    int[] placeOf(int p) {
        return now.points.get(p);
    }

    int triangles() {
        return now.triangles().size();
    }
}
