import java.util.Arrays;

/**
 * A mesh of triangles on a square: points, edges that must stay, all other edges by empty circles.
 * The mesh is alone for each state, so it may be mended by flips in any order.
 */
public final class SquareMesh {
    public static final int NONE = -1;

    private static final int MOST = 40;
    private static final int FIRST_OWN = 4;
    private static final int HALF = 1000;
    private static final int NOWHERE = -100000;
    private static final int TALLEST = 9999;
    private static final int MOST_HOLES = 8;
    private static final int MOST_STEPS = 20;
    private static final int FIRST_G = 313;
    private static final int G_END = 30047;

    // n points, four of them or more on the border: 2n - 6 triangles and 3n - 7 edges at most.
    private static final int MOST_TRIANGLES = 74;
    private static final int MOST_EDGES = 113;

    // Where the parts of a kept state lie in its share of the rows of Past.
    private static final int KEPT_YS = MOST;
    private static final int KEPT_HEIGHTS = 2 * MOST;
    private static final int KEPT_HOLE_XS = 3 * MOST;
    private static final int KEPT_HOLE_YS = KEPT_HOLE_XS + MOST_HOLES;
    private static final int KEPT_HOLES = KEPT_HOLE_YS + MOST_HOLES;
    private static final int KEPT_G = KEPT_HOLES + 1;
    private static final int KEPT_TRIANGLES = KEPT_G + 1;
    private static final int KEPT_CORNERS = KEPT_TRIANGLES + 1;
    private static final int KEPT_NUMBERS = KEPT_CORNERS + 3 * MOST_TRIANGLES;
    private static final int KEPT_BITS = MOST + 1;

    // The steps, and the state above the latest of them.
    private static final int MOST_KEPT = MOST_STEPS + 1;

    // No pair of points is flipped apart twice, so no run of flips comes near this.
    private static final int MANY = 1000000;

    private final Mesh mesh;
    private final Mesh tried;
    private final Past past;
    private final Past pictured;
    private final Regions regions;
    private final Ways ways;
    private final Passages passages;
    private final Tree grown;
    private final Hull wrapped;
    private final int[] colours;

    public SquareMesh() {
        mesh = new Mesh();
        tried = new Mesh();
        past = new Past();
        pictured = new Past();
        regions = new Regions();
        ways = new Ways();
        passages = new Passages();
        grown = new Tree();
        wrapped = new Hull();
        colours = new int[MOST];
        mesh.start();
        pictured.keepTop(mesh);
    }

    // ---- what changes the mesh

    public int point(int x, int y) {
        if (!mesh.told.takes(x, y)) {
            return NONE;
        }
        past.push(mesh);
        return mesh.tellPoint(x, y);
    }

    public boolean drop(int point) {
        if (!mesh.told.isLoose(point)) {
            return false;
        }
        past.push(mesh);
        mesh.takeOut(point);
        return true;
    }

    public boolean move(int point, int x, int y) {
        if (!mesh.told.isLoose(point) || !inSquare(x, y) || mesh.told.atPlace(x, y) != NONE) {
            return false;
        }
        past.push(mesh);
        mesh.takeOut(point);
        mesh.insert(point, x, y);
        return true;
    }

    public boolean fix(int point, int other) {
        if (!mesh.canFix(point, other)) {
            return false;
        }
        past.push(mesh);
        mesh.fixEdge(point, other);
        return true;
    }

    public boolean free(int point, int other) {
        if (!mesh.canFree(point, other)) {
            return false;
        }
        past.push(mesh);
        mesh.freeEdge(point, other);
        return true;
    }

    public int drawn(int n, int within) {
        if (n < 1 || n > 20 || within < 1 || within > HALF) {
            return NONE;
        }
        past.push(mesh);
        int came = 0;
        for (int k = 0; k < n; k++) {
            int x = mesh.told.draw(within);
            int y = mesh.told.draw(within);
            if (mesh.tellPoint(x, y) != NONE) {
                came++;
            }
        }
        return came;
    }

    public boolean height(int point, int height) {
        if (!mesh.told.has(point) || height < -TALLEST || height > TALLEST) {
            return false;
        }
        past.push(mesh);
        mesh.told.heights[point] = height;
        return true;
    }

    public int refine(int n) {
        if (n < 1 || n > 10) {
            return NONE;
        }
        past.push(mesh);
        int came = 0;
        for (int k = 0; k < n; k++) {
            if (!refineOnce()) {
                break;
            }
            came++;
        }
        return came;
    }

    private boolean refineOnce() {
        Told told = mesh.told;
        int t = mesh.thinnestOne();
        int k = mesh.longestSide(t);
        int a = mesh.cornerOf(t, k);
        int b = mesh.cornerOf(t, (k + 1) % 3);
        int x = Math.floorDiv(told.xs[a] + told.xs[b], 2);
        int y = Math.floorDiv(told.ys[a] + told.ys[b], 2);
        return mesh.tellPoint(x, y) != NONE;
    }

    public int smooth() {
        past.push(mesh);
        int moved = 0;
        for (int p = FIRST_OWN; p < MOST; p++) {
            if (mesh.told.isLoose(p) && smoothOne(p)) {
                moved++;
            }
        }
        return moved;
    }

    private boolean smoothOne(int p) {
        int n = mesh.goRound(p);
        if (n <= 0) {
            return false;
        }
        int sumX = 0;
        int sumY = 0;
        for (int k = 0; k < n; k++) {
            sumX += mesh.told.xs[mesh.round[k]];
            sumY += mesh.told.ys[mesh.round[k]];
        }
        int x = Math.floorDiv(sumX, n);
        int y = Math.floorDiv(sumY, n);
        if (mesh.told.atPlace(x, y) != NONE) {
            return false;
        }
        mesh.takeOut(p);
        mesh.insert(p, x, y);
        return true;
    }

    public int hole(int x, int y) {
        Told told = mesh.told;
        if (!inSquare(x, y) || told.holes >= MOST_HOLES) {
            return NONE;
        }
        past.push(mesh);
        told.holeXs[told.holes] = x;
        told.holeYs[told.holes] = y;
        told.holes++;
        return told.holes;
    }

    public int fill() {
        if (mesh.told.holes <= 0) {
            return NONE;
        }
        past.push(mesh);
        mesh.told.holes--;
        return mesh.told.holes;
    }

    public boolean tell(int x) {
        if (x < 0 || x >= G_END) {
            return false;
        }
        mesh.told.g = x;
        return true;
    }

    // ---- steps and the image

    public int undo() {
        return past.pop(mesh) ? past.count : NONE;
    }

    public int steps() {
        return past.count;
    }

    // All is in the image, so the steps that can be taken back are too.
    public int image() {
        pictured.copyFrom(past);
        pictured.keepTop(mesh);
        return mesh.told.points();
    }

    public int back() {
        pictured.giveTop(mesh);
        past.copyFrom(pictured);
        return mesh.told.points();
    }

    public int fresh() {
        int count = 0;
        for (int t = 0; t < mesh.triangles; t++) {
            if (!pictured.topHad(mesh.cornerOf(t, 0), mesh.cornerOf(t, 1), mesh.cornerOf(t, 2))) {
                count++;
            }
        }
        return count;
    }

    // ---- counts and single things

    public int is(int what) {
        switch (what) {
            case 0: return mesh.told.points();
            case 1: return mesh.triangles;
            case 2: return mesh.edges;
            case 3: return mesh.countFixed();
            case 4: return mesh.countBorder();
            case 6: return mesh.told.g;
            case 7: return mesh.countBent();
            case 8: return mesh.told.holes;
            case 10: return mesh.countAngles(-1);
            case 11: return mesh.countAngles(0);
            case 12: return paint();
            default: return isOfRegions(what);
        }
    }

    private int isOfRegions(int what) {
        if (what != 5 && what != 9) {
            return NONE;
        }
        regions.find(mesh);
        return what == 5 ? regions.count : regions.countHollow();
    }

    public int of(int point, int what) {
        Told told = mesh.told;
        if (!told.has(point)) {
            return what == 0 || what == 1 || what == 5 ? NOWHERE : NONE;
        }
        switch (what) {
            case 0: return told.xs[point];
            case 1: return told.ys[point];
            case 2: return Long.bitCount(mesh.near[point]);
            case 3: return Long.bitCount(told.fixed[point]);
            case 4: return told.isOnBorder(point) ? 1 : 0;
            case 5: return told.heights[point];
            default: return NONE;
        }
    }

    public int at(int x, int y) {
        return mesh.told.atPlace(x, y);
    }

    public int corner(int i, int k) {
        return mesh.hasTriangle(i) && k >= 0 && k < 3 ? mesh.cornerOf(i, k) : NONE;
    }

    public int beyond(int i, int k) {
        return mesh.hasTriangle(i) && k >= 0 && k < 3 ? mesh.across(i, k) : NONE;
    }

    public int area(int i) {
        return mesh.hasTriangle(i) ? mesh.areaOf(i) : NONE;
    }

    public int triangle(int a, int b, int c) {
        if (!mesh.told.has(a) || !mesh.told.has(b) || !mesh.told.has(c)) {
            return NONE;
        }
        if (mesh.apex[a * MOST + b] == c) {
            return mesh.owner[a * MOST + b];
        }
        if (mesh.apex[b * MOST + a] == c) {
            return mesh.owner[b * MOST + a];
        }
        return NONE;
    }

    public boolean isEdge(int point, int other) {
        return mesh.told.has(point) && mesh.told.has(other) && mesh.isNear(point, other);
    }

    public boolean isFixed(int point, int other) {
        return mesh.told.has(point) && mesh.told.has(other) && mesh.told.isBound(point, other);
    }

    public int in(int x, int y) {
        return mesh.whereIn(x, y);
    }

    public int lies(int x, int y) {
        int t = mesh.whereIn(x, y);
        if (t == NONE) {
            return 0;
        }
        if (mesh.told.atPlace(x, y) != NONE) {
            return 3;
        }
        for (int k = 0; k < 3; k++) {
            if (mesh.sideOf(t, k, x, y) == 0) {
                return 2;
            }
        }
        return 1;
    }

    public int walk(int i, int x, int y, int what) {
        if (!mesh.hasTriangle(i) || !inSquare(x, y) || what < 0 || what > 2) {
            return NONE;
        }
        int crossings = passages.walkTo(mesh, i, x, y);
        if (what == 0) {
            return passages.last;
        }
        if (what == 1) {
            return crossings;
        }
        return mesh.holds(passages.last, x, y) ? 1 : 0;
    }

    public int star(int point, int i) {
        if (!mesh.told.has(point) || i < 0) {
            return NONE;
        }
        return i < mesh.goRound(point) ? mesh.round[i] : NONE;
    }

    public long ring(int point, int k) {
        return mesh.told.has(point) && k >= 0 ? ways.ringOf(mesh, point, k) : 0L;
    }

    public int crossed(int point, int other) {
        Told told = mesh.told;
        if (!told.has(point) || !told.has(other) || point == other) {
            return NONE;
        }
        return mesh.countCut(told.xs[point], told.ys[point], told.xs[other], told.ys[other]);
    }

    public int cut(int x, int y, int toX, int toY) {
        return inSquare(x, y) && inSquare(toX, toY) ? mesh.countCut(x, y, toX, toY) : NONE;
    }

    public boolean sees(int point, int other) {
        return mesh.isInSight(point, other);
    }

    public long seen(int point) {
        long bits = 0;
        for (int p = 0; p < MOST; p++) {
            if (mesh.isInSight(point, p)) {
                bits |= 1L << p;
            }
        }
        return bits;
    }

    // ---- regions

    public int region(int i) {
        if (!mesh.hasTriangle(i)) {
            return NONE;
        }
        regions.find(mesh);
        return regions.part[i];
    }

    public int ofRegion(int region, int what) {
        regions.find(mesh);
        if (region < 0 || region >= regions.count) {
            return NONE;
        }
        switch (what) {
            case 0: return regions.sizeOf(mesh, region);
            case 1: return regions.areaOf(mesh, region);
            case 2: return regions.holesIn[region] > 0 ? 1 : 0;
            case 3: return regions.holesIn[region];
            case 4: return Long.bitCount(regions.pointsOf(mesh, region));
            default: return NONE;
        }
    }

    public int firm() {
        regions.find(mesh);
        int sum = 0;
        for (int r = 0; r < regions.count; r++) {
            if (regions.holesIn[r] == 0) {
                sum += regions.areaOf(mesh, r);
            }
        }
        return sum;
    }

    // ---- measures

    public int nearest(int x, int y) {
        if (!inSquare(x, y)) {
            return NONE;
        }
        int best = NONE;
        int least = 0;
        for (int p = 0; p < MOST; p++) {
            if (mesh.told.has(p)) {
                int dx = mesh.told.xs[p] - x;
                int dy = mesh.told.ys[p] - y;
                int square = dx * dx + dy * dy;
                if (best == NONE || square < least) {
                    best = p;
                    least = square;
                }
            }
        }
        return best;
    }

    public int length(int what) {
        if (what != 0 && what != 1) {
            return NONE;
        }
        int best = mesh.squareOf(0);
        for (int e = 1; e < mesh.edges; e++) {
            int square = mesh.squareOf(e);
            if (what == 0 ? square < best : square > best) {
                best = square;
            }
        }
        return best;
    }

    public int busiest(int what) {
        if (what != 0 && what != 1) {
            return NONE;
        }
        int best = 0;
        for (int p = 1; p < MOST; p++) {
            if (mesh.told.has(p)) {
                int more = Long.bitCount(mesh.near[p]) - Long.bitCount(mesh.near[best]);
                if (what == 0 ? more > 0 : more < 0) {
                    best = p;
                }
            }
        }
        return best;
    }

    public int thinnest() {
        return mesh.thinnestOne();
    }

    public int circle(int i, int x, int y) {
        if (!mesh.hasTriangle(i) || !inSquare(x, y)) {
            return -2;
        }
        return Long.compare(mesh.underCircle(i, x, y), 0L);
    }

    public long mean() {
        long sum = 0;
        for (int e = 0; e < mesh.edges; e++) {
            sum += mesh.squareOf(e);
        }
        return mesh.edges > 0 ? bitsOf((double) sum / (double) mesh.edges) : 0L;
    }

    // The value is 1 or more and far under 2 to the 53rd: doubling it loses nothing.
    private static long bitsOf(double value) {
        double scaled = value;
        long power = 1023 + 52;
        for (int k = 0; k < 64 && scaled < (double) (1L << 52); k++) {
            scaled = scaled * 2;
            power--;
        }
        return (power << 52) + ((long) scaled - (1L << 52));
    }

    // ---- ways along edges

    public int tree(int i, int what) {
        grown.grow(mesh);
        if (i == NONE) {
            return what == 0 ? grown.count : NONE;
        }
        if (i < 0 || i >= grown.count) {
            return NONE;
        }
        int e = grown.taken[i];
        switch (what) {
            case 0: return mesh.ends[2 * e];
            case 1: return mesh.ends[2 * e + 1];
            case 2: return mesh.squareOf(e);
            default: return NONE;
        }
    }

    public int way(int point, int other, int i) {
        if (!mesh.told.has(point) || !mesh.told.has(other)) {
            return NONE;
        }
        ways.countTo(mesh, other);
        return i == NONE ? ways.far[point] : ways.follow(mesh, point, i, true);
    }

    public int shortest(int point, int other, int i) {
        if (!mesh.told.has(point) || !mesh.told.has(other)) {
            return NONE;
        }
        ways.measureTo(mesh, other);
        return i == NONE ? ways.far[point] : ways.follow(mesh, point, i, false);
    }

    public int centre(int what) {
        if (what != 0 && what != 1) {
            return NONE;
        }
        int best = NONE;
        int least = 0;
        for (int p = 0; p < MOST; p++) {
            if (mesh.told.has(p)) {
                int farthest = ways.countTo(mesh, p);
                if (best == NONE || farthest < least) {
                    best = p;
                    least = farthest;
                }
            }
        }
        return what == 0 ? best : least;
    }

    public int bent(int i) {
        if (i < 0) {
            return NONE;
        }
        int left = i;
        for (int e = 0; e < mesh.edges; e++) {
            if (mesh.isBent(e)) {
                if (left == 0) {
                    return 100 * mesh.ends[2 * e] + mesh.ends[2 * e + 1];
                }
                left--;
            }
        }
        return NONE;
    }

    public int colour(int point) {
        if (!mesh.told.has(point)) {
            return NONE;
        }
        paint();
        return colours[point];
    }

    private int paint() {
        int count = 0;
        for (int p = 0; p < MOST; p++) {
            if (mesh.told.has(p)) {
                colours[p] = leastColour(p);
                count = Math.max(count, colours[p] + 1);
            }
        }
        return count;
    }

    private int leastColour(int p) {
        long used = 0;
        for (int q = 0; q < p; q++) {
            if (mesh.isNear(p, q)) {
                used |= 1L << colours[q];
            }
        }
        int colour = 0;
        for (int k = 0; k < MOST && (used >>> colour & 1L) != 0; k++) {
            colour++;
        }
        return colour;
    }

    // ---- heights

    public int heightAt(int x, int y) {
        int t = mesh.whereIn(x, y);
        if (t == NONE) {
            return NOWHERE;
        }
        long sum = 0;
        for (int k = 0; k < 3; k++) {
            int opposite = mesh.cornerOf(t, (k + 2) % 3);
            sum += (long) mesh.told.heights[opposite] * mesh.sideOf(t, k, x, y);
        }
        long whole = mesh.areaOf(t);
        return whole > 0 ? (int) Math.floorDiv(sum, whole) : NOWHERE;
    }

    public int level(int height) {
        int count = 0;
        for (int e = 0; e < mesh.edges; e++) {
            boolean above = mesh.told.heights[mesh.ends[2 * e]] > height;
            boolean otherAbove = mesh.told.heights[mesh.ends[2 * e + 1]] > height;
            if (above != otherAbove) {
                count++;
            }
        }
        return count;
    }

    public int drain(int point, int what) {
        if (!mesh.told.has(point) || what < 0 || what > 1) {
            return NONE;
        }
        int p = point;
        int count = 0;
        for (int k = 0; k < MOST; k++) {
            int lowest = mesh.lowestNear(p);
            if (lowest == NONE || mesh.told.heights[lowest] >= mesh.told.heights[p]) {
                break;
            }
            p = lowest;
            count++;
        }
        return what == 0 ? p : count;
    }

    public long volume() {
        long sum = 0;
        for (int t = 0; t < mesh.triangles; t++) {
            long heights = 0;
            for (int k = 0; k < 3; k++) {
                heights += mesh.told.heights[mesh.cornerOf(t, k)];
            }
            sum += heights * mesh.areaOf(t);
        }
        return sum;
    }

    // ---- passages and hulls

    public int passage(int x, int y, int toX, int toY, int i) {
        int from = mesh.whereIn(x, y);
        int to = mesh.whereIn(toX, toY);
        if (from == NONE || to == NONE) {
            return NONE;
        }
        passages.spread(mesh, to);
        return i == NONE ? passages.far[from] : passages.follow(mesh, from, i);
    }

    public int hull(int i) {
        wrapped.wrap(mesh.told);
        if (i == NONE) {
            return wrapped.count;
        }
        return i >= 0 && i < wrapped.count ? wrapped.row[i] : NONE;
    }

    // ---- what would be

    public int wouldPoint(int x, int y) {
        if (!mesh.told.takes(x, y)) {
            return NONE;
        }
        tried.become(mesh);
        tried.tellPoint(x, y);
        return countNew();
    }

    public int wouldDrop(int point) {
        if (!mesh.told.isLoose(point)) {
            return NONE;
        }
        tried.become(mesh);
        tried.takeOut(point);
        return countNew();
    }

    public int wouldFix(int point, int other) {
        if (!mesh.canFix(point, other)) {
            return NONE;
        }
        tried.become(mesh);
        tried.fixEdge(point, other);
        return countNew();
    }

    public int wouldFree(int point, int other) {
        if (!mesh.canFree(point, other)) {
            return NONE;
        }
        tried.become(mesh);
        tried.freeEdge(point, other);
        return countNew();
    }

    private int countNew() {
        int count = 0;
        for (int t = 0; t < tried.triangles; t++) {
            int edge = tried.cornerOf(t, 0) * MOST + tried.cornerOf(t, 1);
            if (mesh.apex[edge] != tried.cornerOf(t, 2)) {
                count++;
            }
        }
        return count;
    }

    // ---- plain geometry

    private static boolean inSquare(int x, int y) {
        return x >= -HALF && x <= HALF && y >= -HALF && y <= HALF;
    }

    /** Twice the area of three places, above 0 against the clock; no overflow within the square. */
    private static int turn(int ax, int ay, int bx, int by, int cx, int cy) {
        return (bx - ax) * (cy - ay) - (by - ay) * (cx - ax);
    }

    private static boolean areOpposite(int one, int other) {
        return one < 0 && other > 0 || one > 0 && other < 0;
    }

    /** The whole root of the square of a length within the square, downward. */
    private static int rootOf(int square) {
        int low = 0;
        int high = 3 * HALF;
        for (int k = 0; k < 16 && low < high; k++) {
            int middle = (low + high + 1) / 2;
            if (middle * middle <= square) {
                low = middle;
            } else {
                high = middle - 1;
            }
        }
        return low;
    }

    /** All that was told: points and their heights, fixed edges, holes and G. */
    private static final class Told {
        final int[] xs = new int[MOST];
        final int[] ys = new int[MOST];
        final int[] heights = new int[MOST];
        final long[] fixed = new long[MOST];
        final int[] holeXs = new int[MOST_HOLES];
        final int[] holeYs = new int[MOST_HOLES];
        long there;
        int holes;
        int g;

        void copyFrom(Told other) {
            System.arraycopy(other.xs, 0, xs, 0, MOST);
            System.arraycopy(other.ys, 0, ys, 0, MOST);
            System.arraycopy(other.heights, 0, heights, 0, MOST);
            System.arraycopy(other.fixed, 0, fixed, 0, MOST);
            System.arraycopy(other.holeXs, 0, holeXs, 0, MOST_HOLES);
            System.arraycopy(other.holeYs, 0, holeYs, 0, MOST_HOLES);
            there = other.there;
            holes = other.holes;
            g = other.g;
        }

        void copyTo(int[] numbers, int at, long[] bits, int bitsAt) {
            System.arraycopy(xs, 0, numbers, at, MOST);
            System.arraycopy(ys, 0, numbers, at + KEPT_YS, MOST);
            System.arraycopy(heights, 0, numbers, at + KEPT_HEIGHTS, MOST);
            System.arraycopy(holeXs, 0, numbers, at + KEPT_HOLE_XS, MOST_HOLES);
            System.arraycopy(holeYs, 0, numbers, at + KEPT_HOLE_YS, MOST_HOLES);
            System.arraycopy(fixed, 0, bits, bitsAt, MOST);
            bits[bitsAt + MOST] = there;
            numbers[at + KEPT_HOLES] = holes;
            numbers[at + KEPT_G] = g;
        }

        void copyFrom(int[] numbers, int at, long[] bits, int bitsAt) {
            System.arraycopy(numbers, at, xs, 0, MOST);
            System.arraycopy(numbers, at + KEPT_YS, ys, 0, MOST);
            System.arraycopy(numbers, at + KEPT_HEIGHTS, heights, 0, MOST);
            System.arraycopy(numbers, at + KEPT_HOLE_XS, holeXs, 0, MOST_HOLES);
            System.arraycopy(numbers, at + KEPT_HOLE_YS, holeYs, 0, MOST_HOLES);
            System.arraycopy(bits, bitsAt, fixed, 0, MOST);
            there = bits[bitsAt + MOST];
            holes = numbers[at + KEPT_HOLES];
            g = numbers[at + KEPT_G];
        }

        boolean has(int p) {
            return p >= 0 && p < MOST && (there >>> p & 1L) != 0;
        }

        int points() {
            return Long.bitCount(there);
        }

        void place(int p, int x, int y) {
            xs[p] = x;
            ys[p] = y;
            there |= 1L << p;
        }

        void remove(int p) {
            there &= ~(1L << p);
        }

        int atPlace(int x, int y) {
            for (int p = 0; p < MOST; p++) {
                if (has(p) && xs[p] == x && ys[p] == y) {
                    return p;
                }
            }
            return NONE;
        }

        int leastUnused() {
            for (int p = FIRST_OWN; p < MOST; p++) {
                if (!has(p)) {
                    return p;
                }
            }
            return NONE;
        }

        boolean takes(int x, int y) {
            return inSquare(x, y) && atPlace(x, y) == NONE && leastUnused() != NONE;
        }

        /** Whether a point is there and may be taken out. */
        boolean isLoose(int p) {
            return has(p) && fixed[p] == 0;
        }

        boolean isOnBorder(int p) {
            return Math.abs(xs[p]) == HALF || Math.abs(ys[p]) == HALF;
        }

        boolean isBound(int a, int b) {
            return (fixed[a] >>> b & 1L) != 0;
        }

        void bind(int a, int b) {
            fixed[a] |= 1L << b;
            fixed[b] |= 1L << a;
        }

        void unbind(int a, int b) {
            fixed[a] &= ~(1L << b);
            fixed[b] &= ~(1L << a);
        }

        int draw(int within) {
            g = (g * 827 + 641) % G_END;
            int span = 2 * within + 1;
            return span > 0 ? g % span - within : 0;
        }

        /** Above 0: the place lies to the left of the line from a to b. */
        int side(int a, int b, int x, int y) {
            return (xs[b] - xs[a]) * (y - ys[a]) - (ys[b] - ys[a]) * (x - xs[a]);
        }

        int side(int a, int b, int c) {
            return side(a, b, xs[c], ys[c]);
        }

        int square(int a, int b) {
            int dx = xs[a] - xs[b];
            int dy = ys[a] - ys[b];
            return dx * dx + dy * dy;
        }

        /** Which of two points is ahead of the other one. */
        int ahead(int a, int b) {
            if (xs[a] != xs[b]) {
                return xs[a] < xs[b] ? a : b;
            }
            return ys[a] <= ys[b] ? a : b;
        }

        /** Whether p lies on the straight line from a to b, between both. */
        boolean isBetween(int a, int b, int p) {
            if (side(a, b, p) != 0) {
                return false;
            }
            int along = (xs[a] - xs[p]) * (xs[b] - xs[p]) + (ys[a] - ys[p]) * (ys[b] - ys[p]);
            return along < 0;
        }

        /** Whether the line from place to place crosses the one from a to b, between all ends. */
        boolean isCut(int a, int b, int x, int y, int toX, int toY) {
            if (!areOpposite(side(a, b, x, y), side(a, b, toX, toY))) {
                return false;
            }
            return areOpposite(turn(x, y, toX, toY, xs[a], ys[a]), turn(x, y, toX, toY, xs[b], ys[b]));
        }

        boolean isCutBy(int a, int b, int c, int d) {
            return isCut(a, b, xs[c], ys[c], xs[d], ys[d]);
        }
    }

    /**
     * The mesh of what was told. Behind the edge from a to b, to its left, lies apex[a * MOST + b]
     * (NONE: no triangle); the rows of triangles and edges are made anew from that, in order.
     */
    private static final class Mesh {
        final Told told = new Told();
        final int[] apex = new int[MOST * MOST];
        final int[] owner = new int[MOST * MOST];
        final int[] corners = new int[3 * MOST_TRIANGLES];
        final int[] ends = new int[2 * MOST_EDGES];
        final long[] near = new long[MOST];
        final int[] round = new int[MOST];
        int triangles;
        int edges;

        private final long[] lift = new long[MOST];
        private final long[] waiting = new long[MOST];
        private final int[] queue = new int[MOST * MOST / 2];
        private int queued;

        void start() {
            told.place(0, -HALF, -HALF);
            told.place(1, HALF, -HALF);
            told.place(2, HALF, HALF);
            told.place(3, -HALF, HALF);
            told.g = FIRST_G;
            Arrays.fill(apex, NONE);
            for (int k = 0; k < 4; k++) {
                told.bind(k, (k + 1) % 4);
            }
            lay(0, 1, 2);
            lay(0, 2, 3);
            liftRound();
            list();
        }

        void become(Mesh other) {
            told.copyFrom(other.told);
            layAll(other.corners, 0, other.triangles);
        }

        /** Lays the triangles whose corners stand in a row from a place on. */
        void layAll(int[] row, int at, int newTriangles) {
            Arrays.fill(apex, NONE);
            for (int t = 0; t < newTriangles && t < MOST_TRIANGLES; t++) {
                int first = at + 3 * t;
                lay(row[first], row[first + 1], row[first + 2]);
            }
            liftRound();
            list();
        }

        // -- changes

        int tellPoint(int x, int y) {
            if (!told.takes(x, y)) {
                return NONE;
            }
            int p = told.leastUnused();
            told.heights[p] = 0;
            insert(p, x, y);
            return p;
        }

        void insert(int p, int x, int y) {
            int t = whereIn(x, y);
            if (t == NONE) {
                return;
            }
            int a = cornerOf(t, 0);
            int b = cornerOf(t, 1);
            int c = cornerOf(t, 2);
            told.place(p, x, y);
            strip(a, b, c);
            join(a, b, p);
            join(b, c, p);
            join(c, a, p);
            settle();
        }

        private void join(int a, int b, int p) {
            if (told.side(a, b, p) > 0) {
                put(a, b, p);
                return;
            }
            if (told.isBound(a, b)) {
                told.unbind(a, b);
                told.bind(a, p);
                told.bind(b, p);
            }
            int d = apex[b * MOST + a];
            if (d != NONE) {
                strip(b, a, d);
                put(a, d, p);
                put(d, b, p);
            }
        }

        void takeOut(int p) {
            int n = goRound(p);
            for (int k = 0; k < n; k++) {
                strip(p, round[k], round[(k + 1) % n]);
            }
            told.remove(p);
            for (int left = n; left >= 3; left--) {
                cutEar(left);
            }
            settle();
        }

        // A simple shape of four or more corners always has an ear, so the last one is a triangle.
        private void cutEar(int n) {
            for (int k = 0; k < n; k++) {
                if (isEar(k, n)) {
                    put(round[(k + n - 1) % n], round[k], round[(k + 1) % n]);
                    for (int j = k; j + 1 < n; j++) {
                        round[j] = round[j + 1];
                    }
                    return;
                }
            }
        }

        private boolean isEar(int k, int n) {
            int a = round[(k + n - 1) % n];
            int b = round[k];
            int c = round[(k + 1) % n];
            if (told.side(a, b, c) <= 0) {
                return false;
            }
            for (int j = 0; j < n; j++) {
                int p = round[j];
                boolean own = p == a || p == b || p == c;
                if (!own && told.side(a, b, p) >= 0 && told.side(b, c, p) >= 0 && told.side(c, a, p) >= 0) {
                    return false;
                }
            }
            return true;
        }

        boolean canFix(int a, int b) {
            return isInSight(a, b) && !told.isBound(a, b);
        }

        // Lifted by their distances from the line, the points lie on a hull that bends along that
        // line: a crossing edge with its crease upward can be flipped, and while edges cross there
        // is one, as the surface over the line is 0 at both ends and above 0 at each crossing.
        void fixEdge(int a, int b) {
            liftFrom(a, b);
            for (int k = 0; k < MANY && !isNear(a, b); k++) {
                flipCrossing(a, b);
                list();
            }
            told.bind(a, b);
            settle();
        }

        private void flipCrossing(int a, int b) {
            for (int e = 0; e < edges; e++) {
                int u = ends[2 * e];
                int v = ends[2 * e + 1];
                int c = apex[u * MOST + v];
                int d = apex[v * MOST + u];
                boolean crosses = c != NONE && d != NONE && told.isCutBy(u, v, a, b);
                if (crosses && under(u, v, c, told.xs[d], told.ys[d], lift[d]) > 0) {
                    flip(u, v);
                }
            }
        }

        boolean canFree(int a, int b) {
            if (!told.has(a) || !told.has(b) || !told.isBound(a, b)) {
                return false;
            }
            return isInner(a, b);
        }

        void freeEdge(int a, int b) {
            told.unbind(a, b);
            await(a, b);
            settle();
        }

        // -- flips

        private void lay(int a, int b, int c) {
            apex[a * MOST + b] = c;
            apex[b * MOST + c] = a;
            apex[c * MOST + a] = b;
        }

        private void strip(int a, int b, int c) {
            apex[a * MOST + b] = NONE;
            apex[b * MOST + c] = NONE;
            apex[c * MOST + a] = NONE;
        }

        private void put(int a, int b, int c) {
            lay(a, b, c);
            await(a, b);
            await(b, c);
            await(c, a);
        }

        private void await(int a, int b) {
            int low = a < b ? a : b;
            int high = a < b ? b : a;
            if ((waiting[low] >>> high & 1L) == 0 && queued < queue.length) {
                waiting[low] |= 1L << high;
                queue[queued] = low * MOST + high;
                queued++;
            }
        }

        private void settle() {
            liftRound();
            for (int k = 0; k < MANY && queued > 0; k++) {
                queued--;
                int a = queue[queued] / MOST;
                int b = queue[queued] % MOST;
                waiting[a] &= ~(1L << b);
                if (isInner(a, b) && !told.isBound(a, b) && !isAllowed(a, b)) {
                    flip(a, b);
                }
            }
            list();
        }

        private void flip(int a, int b) {
            int c = apex[a * MOST + b];
            int d = apex[b * MOST + a];
            if (c == NONE || d == NONE) {
                return;
            }
            apex[a * MOST + b] = NONE;
            apex[b * MOST + a] = NONE;
            put(a, d, c);
            put(d, b, c);
        }

        private boolean isInner(int a, int b) {
            return apex[a * MOST + b] != NONE && apex[b * MOST + a] != NONE;
        }

        /** Whether an edge of two triangles may be one if it isn't fixed. */
        private boolean isAllowed(int a, int b) {
            int c = apex[a * MOST + b];
            int d = apex[b * MOST + a];
            if (c == NONE || d == NONE) {
                return true;
            }
            long depth = under(a, b, c, told.xs[d], told.ys[d], lift[d]);
            if (depth != 0) {
                return depth < 0;
            }
            int first = told.ahead(told.ahead(a, b), told.ahead(c, d));
            return first == a || first == b;
        }

        private void liftRound() {
            for (int p = 0; p < MOST; p++) {
                lift[p] = (long) told.xs[p] * told.xs[p] + (long) told.ys[p] * told.ys[p];
            }
        }

        private void liftFrom(int a, int b) {
            for (int p = 0; p < MOST; p++) {
                lift[p] = Math.abs(told.side(a, b, p));
            }
        }

        /** Above 0: the place, so lifted, lies under the plane through a, b and c, lifted. */
        private long under(int a, int b, int c, int x, int y, long height) {
            long ax = told.xs[a] - x;
            long ay = told.ys[a] - y;
            long bx = told.xs[b] - x;
            long by = told.ys[b] - y;
            long cx = told.xs[c] - x;
            long cy = told.ys[c] - y;
            return (lift[a] - height) * (bx * cy - by * cx)
                    + (lift[b] - height) * (cx * ay - cy * ax)
                    + (lift[c] - height) * (ax * by - ay * bx);
        }

        // Lifted to their squares, points inside of a circle lie under its plane.
        long underCircle(int t, int x, int y) {
            long height = (long) x * x + (long) y * y;
            return under(cornerOf(t, 0), cornerOf(t, 1), cornerOf(t, 2), x, y, height);
        }

        // -- the rows

        private void list() {
            triangles = 0;
            edges = 0;
            Arrays.fill(near, 0L);
            for (int a = 0; a < MOST; a++) {
                for (int b = a + 1; b < MOST && told.has(a); b++) {
                    int c = apex[a * MOST + b];
                    if (c != NONE || apex[b * MOST + a] != NONE) {
                        listEdge(a, b);
                    }
                    if (c > a) {
                        listTriangle(a, b, c);
                    }
                }
            }
        }

        private void listEdge(int a, int b) {
            near[a] |= 1L << b;
            near[b] |= 1L << a;
            if (edges < MOST_EDGES) {
                ends[2 * edges] = a;
                ends[2 * edges + 1] = b;
                edges++;
            }
        }

        private void listTriangle(int a, int b, int c) {
            if (triangles < MOST_TRIANGLES) {
                corners[3 * triangles] = a;
                corners[3 * triangles + 1] = b;
                corners[3 * triangles + 2] = c;
                owner[a * MOST + b] = triangles;
                owner[b * MOST + c] = triangles;
                owner[c * MOST + a] = triangles;
                triangles++;
            }
        }

        // -- what is asked; triangles, corners and edges are known to be there

        boolean hasTriangle(int t) {
            return t >= 0 && t < triangles;
        }

        int cornerOf(int t, int k) {
            return corners[3 * t + k];
        }

        boolean isNear(int a, int b) {
            return (near[a] >>> b & 1L) != 0;
        }

        int across(int t, int k) {
            int back = cornerOf(t, (k + 1) % 3) * MOST + cornerOf(t, k);
            return apex[back] == NONE ? NONE : owner[back];
        }

        boolean isOpen(int t, int k) {
            return !told.isBound(cornerOf(t, k), cornerOf(t, (k + 1) % 3));
        }

        int areaOf(int t) {
            return told.side(cornerOf(t, 0), cornerOf(t, 1), cornerOf(t, 2));
        }

        /** Twice the area of a place and an edge of a triangle; under 0: it lies beyond that edge. */
        int sideOf(int t, int k, int x, int y) {
            return told.side(cornerOf(t, k), cornerOf(t, (k + 1) % 3), x, y);
        }

        int sideSquare(int t, int k) {
            return told.square(cornerOf(t, k), cornerOf(t, (k + 1) % 3));
        }

        int squareOf(int e) {
            return told.square(ends[2 * e], ends[2 * e + 1]);
        }

        boolean holds(int t, int x, int y) {
            return sideOf(t, 0, x, y) >= 0 && sideOf(t, 1, x, y) >= 0 && sideOf(t, 2, x, y) >= 0;
        }

        int whereIn(int x, int y) {
            for (int t = 0; t < triangles && inSquare(x, y); t++) {
                if (holds(t, x, y)) {
                    return t;
                }
            }
            return NONE;
        }

        /** Puts the star of a point into the round; answers how many they are. */
        int goRound(int p) {
            int first = firstOfRound(p);
            int v = first;
            int n = 0;
            for (int k = 0; k < MOST && v != NONE; k++) {
                round[n] = v;
                n++;
                v = apex[p * MOST + v];
                if (v == first) {
                    break;
                }
            }
            return n;
        }

        private int firstOfRound(int p) {
            int least = NONE;
            for (int v = 0; v < MOST; v++) {
                if (isNear(p, v)) {
                    if (apex[v * MOST + p] == NONE) {
                        return v;
                    }
                    if (least == NONE) {
                        least = v;
                    }
                }
            }
            return least;
        }

        boolean isInSight(int a, int b) {
            if (!told.has(a) || !told.has(b) || a == b) {
                return false;
            }
            for (int p = 0; p < MOST; p++) {
                if (told.has(p) && told.isBetween(a, b, p)) {
                    return false;
                }
            }
            for (int e = 0; e < edges; e++) {
                int u = ends[2 * e];
                int v = ends[2 * e + 1];
                if (told.isBound(u, v) && told.isCutBy(u, v, a, b)) {
                    return false;
                }
            }
            return true;
        }

        int countCut(int x, int y, int toX, int toY) {
            int count = 0;
            for (int e = 0; e < edges; e++) {
                if (told.isCut(ends[2 * e], ends[2 * e + 1], x, y, toX, toY)) {
                    count++;
                }
            }
            return count;
        }

        int countFixed() {
            int count = 0;
            for (int e = 0; e < edges; e++) {
                if (told.isBound(ends[2 * e], ends[2 * e + 1])) {
                    count++;
                }
            }
            return count;
        }

        int countBorder() {
            int count = 0;
            for (int e = 0; e < edges; e++) {
                if (!isInner(ends[2 * e], ends[2 * e + 1])) {
                    count++;
                }
            }
            return count;
        }

        boolean isBent(int e) {
            int a = ends[2 * e];
            int b = ends[2 * e + 1];
            return told.isBound(a, b) && isInner(a, b) && !isAllowed(a, b);
        }

        int countBent() {
            int count = 0;
            for (int e = 0; e < edges; e++) {
                if (isBent(e)) {
                    count++;
                }
            }
            return count;
        }

        /** How many triangles are blunt (sign -1) or right (sign 0). */
        int countAngles(int sign) {
            int count = 0;
            for (int t = 0; t < triangles; t++) {
                int longest = sideSquare(t, longestSide(t));
                int others = sideSquare(t, 0) + sideSquare(t, 1) + sideSquare(t, 2) - longest;
                if (Integer.compare(others, longest) == sign) {
                    count++;
                }
            }
            return count;
        }

        int longestSide(int t) {
            int best = 0;
            for (int k = 1; k < 3; k++) {
                if (sideSquare(t, k) > sideSquare(t, best)) {
                    best = k;
                }
            }
            return best;
        }

        int thinnestOne() {
            int best = 0;
            long bestArea = areaOf(0);
            long bestSquare = sideSquare(0, longestSide(0));
            for (int t = 1; t < triangles; t++) {
                long area = areaOf(t);
                long square = sideSquare(t, longestSide(t));
                if (area * bestSquare < bestArea * square) {
                    best = t;
                    bestArea = area;
                    bestSquare = square;
                }
            }
            return best;
        }

        int lowestNear(int p) {
            int best = NONE;
            for (int q = 0; q < MOST; q++) {
                if (isNear(p, q) && (best == NONE || told.heights[q] < told.heights[best])) {
                    best = q;
                }
            }
            return best;
        }
    }

    /**
     * The steps that can be taken back, the latest last; the top is the place above them, where an image
     * has the state itself. Each state has its share of two rows, so that keeping one makes nothing.
     */
    private static final class Past {
        private final int[] numbers = new int[MOST_KEPT * KEPT_NUMBERS];
        private final long[] bits = new long[MOST_KEPT * KEPT_BITS];
        int count;

        void push(Mesh mesh) {
            if (count >= MOST_STEPS) {
                forgetOldest();
            }
            keepTop(mesh);
            count++;
        }

        private void forgetOldest() {
            System.arraycopy(numbers, KEPT_NUMBERS, numbers, 0, (MOST_STEPS - 1) * KEPT_NUMBERS);
            System.arraycopy(bits, KEPT_BITS, bits, 0, (MOST_STEPS - 1) * KEPT_BITS);
            count = MOST_STEPS - 1;
        }

        boolean pop(Mesh mesh) {
            if (count <= 0) {
                return false;
            }
            count--;
            giveTop(mesh);
            return true;
        }

        void keepTop(Mesh mesh) {
            int at = count * KEPT_NUMBERS;
            mesh.told.copyTo(numbers, at, bits, count * KEPT_BITS);
            numbers[at + KEPT_TRIANGLES] = mesh.triangles;
            System.arraycopy(mesh.corners, 0, numbers, at + KEPT_CORNERS, 3 * MOST_TRIANGLES);
        }

        void giveTop(Mesh mesh) {
            int at = count * KEPT_NUMBERS;
            mesh.told.copyFrom(numbers, at, bits, count * KEPT_BITS);
            mesh.layAll(numbers, at + KEPT_CORNERS, numbers[at + KEPT_TRIANGLES]);
        }

        void copyFrom(Past other) {
            System.arraycopy(other.numbers, 0, numbers, 0, other.count * KEPT_NUMBERS);
            System.arraycopy(other.bits, 0, bits, 0, other.count * KEPT_BITS);
            count = other.count;
        }

        boolean topHad(int a, int b, int c) {
            int at = count * KEPT_NUMBERS + KEPT_CORNERS;
            int triangles = numbers[count * KEPT_NUMBERS + KEPT_TRIANGLES];
            for (int t = 0; t < triangles && t < MOST_TRIANGLES; t++) {
                int first = at + 3 * t;
                if (numbers[first] == a && numbers[first + 1] == b && numbers[first + 2] == c) {
                    return true;
                }
            }
            return false;
        }
    }

    /** The regions of a mesh, and how many holes lie in each. */
    private static final class Regions {
        final int[] part = new int[MOST_TRIANGLES];
        final int[] holesIn = new int[MOST_TRIANGLES];
        int count;
        private final int[] stack = new int[MOST_TRIANGLES];

        void find(Mesh mesh) {
            count = 0;
            Arrays.fill(part, NONE);
            Arrays.fill(holesIn, 0);
            for (int t = 0; t < mesh.triangles; t++) {
                if (part[t] == NONE) {
                    flood(mesh, t);
                    count++;
                }
            }
            for (int h = 0; h < mesh.told.holes; h++) {
                int t = mesh.whereIn(mesh.told.holeXs[h], mesh.told.holeYs[h]);
                if (t != NONE) {
                    holesIn[part[t]]++;
                }
            }
        }

        // Each triangle is put on the stack once only: it gets its part before.
        private void flood(Mesh mesh, int first) {
            part[first] = count;
            stack[0] = first;
            int waiting = 1;
            for (int k = 0; k < MOST_TRIANGLES && waiting > 0; k++) {
                waiting--;
                int t = stack[waiting];
                for (int side = 0; side < 3; side++) {
                    int next = mesh.isOpen(t, side) ? mesh.across(t, side) : NONE;
                    if (next != NONE && part[next] == NONE) {
                        part[next] = count;
                        stack[waiting] = next;
                        waiting++;
                    }
                }
            }
        }

        int countHollow() {
            int hollow = 0;
            for (int r = 0; r < count; r++) {
                if (holesIn[r] > 0) {
                    hollow++;
                }
            }
            return hollow;
        }

        int sizeOf(Mesh mesh, int r) {
            int size = 0;
            for (int t = 0; t < mesh.triangles; t++) {
                if (part[t] == r) {
                    size++;
                }
            }
            return size;
        }

        int areaOf(Mesh mesh, int r) {
            int sum = 0;
            for (int t = 0; t < mesh.triangles; t++) {
                if (part[t] == r) {
                    sum += mesh.areaOf(t);
                }
            }
            return sum;
        }

        long pointsOf(Mesh mesh, int r) {
            long bits = 0;
            for (int t = 0; t < mesh.triangles; t++) {
                for (int k = 0; k < 3 && part[t] == r; k++) {
                    bits |= 1L << mesh.cornerOf(t, k);
                }
            }
            return bits;
        }
    }

    /** Ways from point to point along edges: how far each point is from the goal. */
    private static final class Ways {
        final int[] far = new int[MOST];
        private final int[] costs = new int[MOST_EDGES];

        long ringOf(Mesh mesh, int p, int k) {
            long ring = 1L << p;
            long reached = ring;
            for (int turn = 0; turn < k && turn < MOST; turn++) {
                ring = nextTo(mesh, ring) & ~reached;
                reached |= ring;
            }
            return ring;
        }

        private static long nextTo(Mesh mesh, long ring) {
            long bits = 0;
            for (int p = 0; p < MOST; p++) {
                if ((ring >>> p & 1L) != 0) {
                    bits |= mesh.near[p];
                }
            }
            return bits;
        }

        /** The fewest edges from each point to the goal; answers the most of them. */
        int countTo(Mesh mesh, int goal) {
            long ring = 1L << goal;
            long reached = ring;
            int most = 0;
            Arrays.fill(far, NONE);
            far[goal] = 0;
            for (int k = 1; k < MOST && ring != 0; k++) {
                ring = nextTo(mesh, ring) & ~reached;
                reached |= ring;
                for (int p = 0; p < MOST; p++) {
                    if ((ring >>> p & 1L) != 0) {
                        far[p] = k;
                        most = k;
                    }
                }
            }
            return most;
        }

        /** The least lengths together from each point to the goal. */
        void measureTo(Mesh mesh, int goal) {
            for (int e = 0; e < mesh.edges; e++) {
                costs[e] = rootOf(mesh.squareOf(e));
            }
            Arrays.fill(far, NONE);
            far[goal] = 0;
            boolean nearer = true;
            for (int k = 0; k < MOST && nearer; k++) {
                nearer = false;
                for (int e = 0; e < mesh.edges; e++) {
                    int a = mesh.ends[2 * e];
                    int b = mesh.ends[2 * e + 1];
                    boolean one = bringNearer(a, b, costs[e]);
                    boolean other = bringNearer(b, a, costs[e]);
                    nearer = nearer || one || other;
                }
            }
        }

        private boolean bringNearer(int p, int by, int cost) {
            if (far[by] == NONE || far[p] != NONE && far[p] <= far[by] + cost) {
                return false;
            }
            far[p] = far[by] + cost;
            return true;
        }

        /** The i-th point on the way to the goal, always by the least number; NONE behind its end. */
        int follow(Mesh mesh, int from, int i, boolean counted) {
            if (i < 0 || i >= MOST) {
                return NONE;
            }
            int p = from;
            for (int k = 0; k < i && p != NONE; k++) {
                p = nextOn(mesh, p, counted);
            }
            return p;
        }

        private int nextOn(Mesh mesh, int p, boolean counted) {
            for (int q = 0; q < MOST; q++) {
                if (mesh.isNear(p, q)) {
                    int cost = counted ? 1 : rootOf(mesh.told.square(p, q));
                    if (far[q] + cost == far[p]) {
                        return q;
                    }
                }
            }
            return NONE;
        }
    }

    /** Passages and walks from triangle to triangle. */
    private static final class Passages {
        final int[] far = new int[MOST_TRIANGLES];
        int last;
        private final int[] queue = new int[MOST_TRIANGLES];

        /** The fewest edges that aren't fixed from each triangle to the goal; NONE: no passage. */
        void spread(Mesh mesh, int goal) {
            Arrays.fill(far, NONE);
            far[goal] = 0;
            queue[0] = goal;
            int queued = 1;
            for (int k = 0; k < queued && k < MOST_TRIANGLES; k++) {
                int t = queue[k];
                for (int side = 0; side < 3; side++) {
                    int next = mesh.isOpen(t, side) ? mesh.across(t, side) : NONE;
                    if (next != NONE && far[next] == NONE && queued < MOST_TRIANGLES) {
                        far[next] = far[t] + 1;
                        queue[queued] = next;
                        queued++;
                    }
                }
            }
        }

        int follow(Mesh mesh, int from, int i) {
            if (i < 0 || far[from] == NONE || i > far[from]) {
                return NONE;
            }
            int t = from;
            for (int k = 0; k < i && t != NONE; k++) {
                t = nextOn(mesh, t);
            }
            return t;
        }

        private int nextOn(Mesh mesh, int t) {
            int best = NONE;
            for (int side = 0; side < 3; side++) {
                int next = mesh.isOpen(t, side) ? mesh.across(t, side) : NONE;
                if (next != NONE && far[next] == far[t] - 1 && (best == NONE || next < best)) {
                    best = next;
                }
            }
            return best;
        }

        /** Walks to a place; answers how many edges were crossed, and keeps the last triangle. */
        int walkTo(Mesh mesh, int from, int x, int y) {
            Arrays.fill(far, NONE);
            last = from;
            far[last] = 0;
            int crossings = 0;
            for (int k = 0; k < MOST_TRIANGLES; k++) {
                int next = nextOnWalk(mesh, x, y);
                if (next == NONE) {
                    break;
                }
                last = next;
                crossings++;
                far[last] = crossings;
            }
            return crossings;
        }

        private int nextOnWalk(Mesh mesh, int x, int y) {
            for (int side = 0; side < 3; side++) {
                int next = mesh.across(last, side);
                if (next != NONE && far[next] == NONE && mesh.sideOf(last, side, x, y) < 0) {
                    return next;
                }
            }
            return NONE;
        }
    }

    /** The least tree of edges that joins all points. */
    private static final class Tree {
        final int[] taken = new int[MOST];
        int count;
        private final int[] part = new int[MOST];

        void grow(Mesh mesh) {
            for (int p = 0; p < MOST; p++) {
                part[p] = p;
            }
            count = 0;
            for (int k = 1; k < MOST; k++) {
                int e = leastJoining(mesh);
                if (e == NONE) {
                    return;
                }
                taken[count] = e;
                count++;
                unite(part[mesh.ends[2 * e]], part[mesh.ends[2 * e + 1]]);
            }
        }

        // The edges are in order by their numbers already: the first one of like ones is taken.
        private int leastJoining(Mesh mesh) {
            int best = NONE;
            int least = 0;
            for (int e = 0; e < mesh.edges; e++) {
                if (part[mesh.ends[2 * e]] != part[mesh.ends[2 * e + 1]]) {
                    int square = mesh.squareOf(e);
                    if (best == NONE || square < least) {
                        best = e;
                        least = square;
                    }
                }
            }
            return best;
        }

        private void unite(int one, int other) {
            for (int p = 0; p < MOST; p++) {
                if (part[p] == other) {
                    part[p] = one;
                }
            }
        }
    }

    /** The hull of the points that are not the square's own. */
    private static final class Hull {
        final int[] row = new int[MOST];
        int count;

        void wrap(Told told) {
            count = 0;
            int first = NONE;
            for (int p = FIRST_OWN; p < MOST; p++) {
                if (told.has(p)) {
                    first = first == NONE ? p : told.ahead(first, p);
                }
            }
            int p = first;
            for (int k = 0; k < MOST && p != NONE; k++) {
                row[count] = p;
                count++;
                p = nextOnHull(told, p);
                if (p == first) {
                    break;
                }
            }
        }

        // The one that has none to its right; of several on one line the farthest.
        private static int nextOnHull(Told told, int p) {
            int best = NONE;
            for (int q = FIRST_OWN; q < MOST; q++) {
                if (told.has(q) && q != p && (best == NONE || isOuter(told, p, best, q))) {
                    best = q;
                }
            }
            return best;
        }

        private static boolean isOuter(Told told, int p, int best, int q) {
            int side = told.side(p, best, q);
            return side < 0 || side == 0 && told.square(p, q) > told.square(p, best);
        }
    }
}
