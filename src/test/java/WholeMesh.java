import java.util.HashMap;
import java.util.Map;
import java.util.Set;
import java.util.TreeSet;

/** Looks at a whole mesh through the face alone: all that the document says THE MESH is. */
final class WholeMesh {
    private final SquareMesh mesh;
    private final int[] xs = new int[40];
    private final int[] ys = new int[40];
    private final int[][] corners;
    // to the left of the edge from a to b: the third corner
    private final Map<Integer, Integer> apex = new HashMap<>();

    WholeMesh(SquareMesh mesh) {
        this.mesh = mesh;
        for (int p = 0; p < 40; p++) {
            xs[p] = mesh.of(p, 0);
            ys[p] = xs[p] == -100000 ? -100000 : mesh.of(p, 1);
        }
        corners = new int[mesh.is(1)][3];
        for (int t = 0; t < corners.length; t++) {
            for (int k = 0; k < 3; k++) {
                corners[t][k] = mesh.corner(t, k);
            }
            for (int k = 0; k < 3; k++) {
                apex.put(corners[t][k] * 100 + corners[t][(k + 1) % 3], corners[t][(k + 2) % 3]);
            }
        }
    }

    private long turn(int a, int b, int c) {
        return (long) (xs[b] - xs[a]) * (ys[c] - ys[a]) - (long) (ys[b] - ys[a]) * (xs[c] - xs[a]);
    }

    private boolean isThere(int p) {
        return xs[p] != -100000;
    }

    /** Triangles that are flat or told with the clock. */
    int flat() {
        int count = 0;
        for (int[] c : corners) {
            count += turn(c[0], c[1], c[2]) <= 0 ? 1 : 0;
        }
        return count;
    }

    /** Triangles that are not told from the least corner on, or not behind the one ahead of them. */
    int disorderly() {
        int count = 0;
        int last = -1;
        for (int[] c : corners) {
            int rank = (c[0] * 100 + c[1]) * 100 + c[2];
            count += c[0] > Math.min(c[1], c[2]) || rank <= last ? 1 : 0;
            last = rank;
        }
        return count;
    }

    long doubleArea() {
        long sum = 0;
        for (int[] c : corners) {
            sum += turn(c[0], c[1], c[2]);
        }
        return sum;
    }

    /** Edges of one triangle that lie inside of the square, and edges that more triangles have on one side. */
    int loose() {
        int count = 3 * corners.length - apex.size();
        for (int e : apex.keySet()) {
            int a = e / 100;
            int b = e % 100;
            boolean onSide = xs[a] == xs[b] && Math.abs(xs[a]) == 1000 || ys[a] == ys[b] && Math.abs(ys[a]) == 1000;
            count += !apex.containsKey(b * 100 + a) && !onSide ? 1 : 0;
        }
        return count;
    }

    /** Points inside of triangles or on their edges, but at corners. */
    int held() {
        int count = 0;
        for (int[] c : corners) {
            for (int p = 0; p < 40; p++) {
                boolean own = p == c[0] || p == c[1] || p == c[2];
                boolean in = isThere(p) && turn(c[0], c[1], p) >= 0 && turn(c[1], c[2], p) >= 0 && turn(c[2], c[0], p) >= 0;
                count += in && !own ? 1 : 0;
            }
        }
        return count;
    }

    /** Fixed edges that are edges of triangles. */
    int fixedEdges() {
        int count = 0;
        for (int e : apex.keySet()) {
            boolean once = e / 100 < e % 100 || !apex.containsKey(e % 100 * 100 + e / 100);
            count += once && mesh.isFixed(e / 100, e % 100) ? 1 : 0;
        }
        return count;
    }

    /** Fixed edges as the points tell them. */
    int fixedEnds() {
        int count = 0;
        for (int p = 0; p < 40; p++) {
            count += isThere(p) ? mesh.of(p, 3) : 0;
        }
        return count / 2;
    }

    /** Edges that aren't fixed and break the rule of circles. */
    int unruly() {
        int count = 0;
        for (Map.Entry<Integer, Integer> e : apex.entrySet()) {
            int a = e.getKey() / 100;
            int b = e.getKey() % 100;
            Integer d = apex.get(b * 100 + a);
            if (a < b && d != null && !isRuled(a, b, e.getValue(), d) && !mesh.isFixed(a, b)) {
                count++;
            }
        }
        return count;
    }

    private boolean isRuled(int a, int b, int c, int d) {
        long in = lifted(a, d) * cross(b, c, d) + lifted(b, d) * cross(c, a, d) + lifted(c, d) * cross(a, b, d);
        if (in != 0) {
            return in < 0;
        }
        return first(first(a, b), first(c, d)) == a || first(first(a, b), first(c, d)) == b;
    }

    private long lifted(int p, int from) {
        long dx = xs[p] - xs[from];
        long dy = ys[p] - ys[from];
        return dx * dx + dy * dy;
    }

    private long cross(int p, int q, int from) {
        return (long) (xs[p] - xs[from]) * (ys[q] - ys[from]) - (long) (ys[p] - ys[from]) * (xs[q] - xs[from]);
    }

    private int first(int p, int q) {
        return xs[p] < xs[q] || xs[p] == xs[q] && ys[p] < ys[q] ? p : q;
    }

    /** The triangles by the places of their corners, whatever the numbers; in no order. */
    Set<String> byPlaces() {
        Set<String> found = new TreeSet<>();
        for (int[] c : corners) {
            TreeSet<String> places = new TreeSet<>();
            for (int p : c) {
                places.add(xs[p] + " " + ys[p]);
            }
            found.add(places.toString());
        }
        return found;
    }
}
