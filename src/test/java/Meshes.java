/** Meshes that several tests start from, numbers that are no points, and what can be asked of a whole mesh. */
final class Meshes {
    static final int MIN = Integer.MIN_VALUE;
    static final int MAX = Integer.MAX_VALUE;
    static final int[][] OUT = {{1001, 0}, {-1001, 0}, {0, 1001}, {0, -1001}, {1001, 1001}, {-1001, -1001},
        {MIN, 0}, {0, MIN}, {MAX, 0}, {0, MAX}, {MIN, MAX}, {MAX, MAX}, {1 << 16, 1 << 16}};

    private Meshes() {
    }

    /** Points told at these places, X and Y by turns. */
    static SquareMesh told(int... places) {
        SquareMesh m = new SquareMesh();
        for (int k = 0; k + 1 < places.length; k += 2) {
            m.point(places[k], places[k + 1]);
        }
        return m;
    }

    /** Point 4 in the middle: (0, 1, 4), (0, 4, 3), (1, 2, 4), (2, 3, 4). */
    static SquareMesh middle() {
        return told(0, 0);
    }

    /** Point 4 in the middle; a fixed line 3, 4, 1: two regions, each of two triangles. */
    static SquareMesh halves() {
        SquareMesh m = middle();
        m.fix(3, 4);
        m.fix(4, 1);
        return m;
    }

    /** Points 4 .. 7 at (100, 100), (-100, 100), (-100, -100), (100, -100), on one circle. */
    static SquareMesh four() {
        return told(100, 100, -100, 100, -100, -100, 100, -100);
    }

    /** 4 fixed to 0; the sides of 0 go to 5 and 6 alone, so that 0 to 4 is the first of all EDGES. */
    static SquareMesh firstEdge(int x, int y) {
        SquareMesh m = told(x, y, 0, -1000, -1000, 0);
        m.fix(0, 4);
        return m;
    }

    /** All 40 points: 4 .. 39 on a grid of six by six, 4 at (-250, -250), 5 at (-150, -250). */
    static SquareMesh full() {
        SquareMesh m = new SquareMesh();
        for (int k = 0; k < 36; k++) {
            m.point(-250 + 100 * (k % 6), -250 + 100 * (k / 6));
        }
        return m;
    }

    /** Numbers that are no points of a mesh with points 0 .. there - 1; shifts would wrap some of them round. */
    static int[] noPoints(int there) {
        return new int[] {there, there <= 39 ? 39 : 41, 40, 41, 64, 68, 96, 1 << 20, MAX, -1, -2, -28, -60, -64, MIN, MIN + 4};
    }

    /** What a mesh of some ten points answers, with its steps and image, as a text; some 100 calls. */
    static String state(SquareMesh m) {
        return shape(m) + " steps " + m.steps() + ", fresh " + m.fresh() + ", firm " + m.firm();
    }

    /** The same without its steps and image. */
    static String shape(SquareMesh m) {
        StringBuilder s = new StringBuilder();
        for (int what = 0; what < 13; what++) {
            s.append(m.is(what)).append(' ');
        }
        for (int p = 0; p < 12; p++) {
            s.append(m.of(p, 0)).append(' ').append(m.of(p, 1)).append(' ').append(m.of(p, 3)).append(' ')
                .append(m.of(p, 5)).append(", ");
        }
        int triangles = m.is(1);
        for (int t = 0; t < triangles; t++) {
            s.append(m.corner(t, 0)).append(' ').append(m.corner(t, 1)).append(' ').append(m.corner(t, 2)).append(", ");
        }
        return s.toString();
    }

    static long bits(int... points) {
        long bits = 0;
        for (int p : points) {
            bits |= 1L << p;
        }
        return bits;
    }
}
