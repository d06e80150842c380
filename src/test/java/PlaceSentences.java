/** What the document says of places, walks, circles and straight lines from place to place (24 to 26, 34, 41, 45). */
final class PlaceSentences {
    private static final int MIN = Meshes.MIN;
    private static final int MAX = Meshes.MAX;

    private PlaceSentences() {
    }

    static void all() {
        in();
        inOut();
        lies();
        liesOnEdges();
        walk();
        walkTheFirstEdge();
        walkNeverBack();
        walkRefused();
        nearest();
        circle();
        circleRefused();
        cut();
        cutRefused();
    }

    private static void in() {
        Due.says(24, "IN: a place lies in a TRIANGLE, inside, on its EDGES, at its corners; of several the first in order.");
        // (0, 1, 4), (0, 4, 3), (1, 2, 4), (2, 3, 4)
        SquareMesh m = Meshes.middle();
        int[][] places = {{0, -1}, {-1, 0}, {1, 0}, {0, 1}, {-500, -500}, {500, -500}, {-500, 500}, {500, 500}, {0, 0},
            {-1000, -1000}, {1000, -1000}, {1000, 1000}, {-1000, 1000}, {0, -1000}, {-1000, 0}, {1000, 0}, {0, 1000}};
        int[] due = {0, 1, 2, 3, 0, 0, 1, 2, 0, 0, 0, 2, 1, 0, 1, 2, 3};
        for (int k = 0; k < due.length; k++) {
            Due.is("in(" + places[k][0] + ", " + places[k][1] + ")", m.in(places[k][0], places[k][1]), due[k]);
        }
        // (4, 5, 6) is 1; just below it (4, 7, 5), just to the left (4, 6, 8)
        SquareMesh small = small();
        Due.is("outside by 1 below", small.in(1, -1), small.triangle(4, 7, 5));
        Due.is("outside by 1 to the left", small.in(-1, 1), small.triangle(4, 6, 8));
        Due.is("outside by 1 above", small.in(1, 1), firstWith(small, 1, 1));
        Due.says(24, "of several the first in order");
        Due.is("on an EDGE of both", new SquareMesh().in(3, 3), 0);
        Due.is("by one to the left", new SquareMesh().in(2, 3), 1);
        Due.is("at a corner of both", new SquareMesh().in(1000, 1000), 0);
        Due.says(24, "IN: the TRIANGLE.");
        SquareMesh full = Meshes.full();
        Due.is("at the last POINT", full.in(250, 250), firstAt(full, 39));
    }

    /** 4 (0, 0), 5 (1, 0), 6 (0, 1): a TRIANGLE of DOUBLE AREA 1; 7 and 8 beyond two of its EDGES. */
    private static SquareMesh small() {
        return Meshes.told(0, 0, 1, 0, 0, 1, 2, -3, -3, 2);
    }

    // the first TRIANGLE by its corners' places alone
    private static int firstWith(SquareMesh m, int x, int y) {
        for (int t = 0; m.corner(t, 0) >= 0; t++) {
            boolean out = false;
            for (int k = 0; k < 3; k++) {
                int a = m.corner(t, k);
                int b = m.corner(t, (k + 1) % 3);
                long turn = (long) (m.of(b, 0) - m.of(a, 0)) * (y - m.of(a, 1)) - (long) (m.of(b, 1) - m.of(a, 1)) * (x - m.of(a, 0));
                out = out || turn < 0;
            }
            if (!out) {
                return t;
            }
        }
        return -1;
    }

    private static int firstAt(SquareMesh m, int p) {
        int t = 0;
        while (m.corner(t, 0) != p && m.corner(t, 1) != p && m.corner(t, 2) != p) {
            t++;
        }
        return t;
    }

    private static void inOut() {
        Due.says(24, "NONE: the place is out of the square.");
        SquareMesh m = Meshes.middle();
        for (int[] place : Meshes.OUT) {
            Due.is("in(" + place[0] + ", " + place[1] + ")", m.in(place[0], place[1]), -1);
        }
        Due.says(25, "0 out of the square");
        for (int[] place : Meshes.OUT) {
            Due.is("lies(" + place[0] + ", " + place[1] + ")", m.lies(place[0], place[1]), 0);
        }
    }

    private static void lies() {
        Due.says(25, "1 inside of a TRIANGLE, 2 on an EDGE between its ends, 3 at a POINT.");
        SquareMesh m = Meshes.middle();
        int[][] places = {{1, 0}, {-1, 0}, {0, 1}, {0, -1}, {1, 1}, {-1, 1}, {-1, -1}, {1, -1}, {0, 0}, {999, 0}, {1000, 0},
            {1000, 999}, {1000, 1000}, {999, 1000}, {999, 999}, {998, 999}, {-1000, -1000}, {1000, -1000}, {-1000, 1000},
            {-1000, 999}, {0, -1000}, {0, -999}};
        int[] due = {1, 1, 1, 1, 2, 2, 2, 2, 3, 1, 2, 2, 3, 2, 2, 1, 3, 3, 3, 2, 2, 1};
        for (int k = 0; k < due.length; k++) {
            Due.is("lies(" + places[k][0] + ", " + places[k][1] + ")", m.lies(places[k][0], places[k][1]), due[k]);
        }
    }

    private static void liesOnEdges() {
        Due.says(25, "on an EDGE between its ends");
        // 4 (0, 0), 5 (10, 0), 6 (30, 0): in one line
        SquareMesh m = new SquareMesh();
        m.point(0, 0);
        m.point(10, 0);
        m.point(30, 0);
        Due.is("next to one end", m.lies(1, 0), 2);
        Due.is("next to the other end", m.lies(9, 0), 2);
        Due.is("at the end", m.lies(10, 0), 3);
        Due.is("on the next EDGE", m.lies(29, 0), 2);
        Due.is("behind all ends", m.lies(31, 0), 1);
        Due.is("ahead of all", m.lies(-1, 0), 1);
        m.drop(5);
        Due.is("where one was", m.lies(10, 0), 2);
        m.drop(4);
        Due.is("where an EDGE was", m.lies(10, 0), 1);
        // the corners' own EDGES: first to second, second to third, third to first
        SquareMesh plain = new SquareMesh();
        Due.is("0 to 1", plain.lies(5, -1000), 2);
        Due.is("1 to 2", plain.lies(1000, 5), 2);
        Due.is("2 to 0", plain.lies(5, 5), 2);
        Due.is("2 to 3", plain.lies(5, 1000), 2);
        Due.is("3 to 0", plain.lies(-1000, 5), 2);
    }

    private static void walk() {
        Due.says(26, "A WALK from the i-th TRIANGLE: where it ends (what 0), how many EDGES were crossed (1), whether the place "
            + "is IN the last TRIANGLE (its EDGES, corners, too; 2: 1, 0).");
        SquareMesh m = Meshes.middle();
        walked(m, 0, 0, -1, 0, 0, 1);
        walked(m, 0, 0, 1, 3, 2, 1);
        walked(m, 3, 500, 0, 2, 1, 1);
        walked(Meshes.halves(), 0, 0, 1, 3, 2, 1);
        Due.says(26, "(its EDGES, corners, too; 2: 1, 0)");
        walked(m, 0, 500, -500, 0, 0, 1);
        walked(m, 2, 500, -500, 2, 0, 1);
        walked(m, 3, 0, 0, 3, 0, 1);
        walked(m, 0, 1000, -1000, 0, 0, 1);
        walked(m, 1, 1000, -1000, 0, 1, 1);
        Due.says(26, "till there is none");
        walked(m, 2, 1000, 1000, 2, 0, 1);
        walked(m, 3, 1000, 1000, 3, 0, 1);
        walked(m, 1, 500, 0, 2, 2, 1);
    }

    private static void walked(SquareMesh m, int t, int x, int y, int end, int edges, int in) {
        String call = "walk(" + t + ", " + x + ", " + y + ", ";
        Due.is(call + "0)", m.walk(t, x, y, 0), end);
        Due.is(call + "1)", m.walk(t, x, y, 1), edges);
        Due.is(call + "2)", m.walk(t, x, y, 2), in);
    }

    private static void walkTheFirstEdge() {
        Due.says(26, "of its EDGES (first corner to second, second to third, third to first), the first beyond which the place "
            + "lies (outside of the TRIANGLE by it)");
        // from (2, 3, 4) down: beyond 3 to 4 it is 3 EDGES, as point 5 lies there, beyond 4 to 2 but 2
        SquareMesh left = Meshes.middle();
        left.point(-500, 0);
        walked(left, left.triangle(2, 3, 4), 0, -900, left.triangle(0, 1, 4), 3, 1);
        SquareMesh right = Meshes.middle();
        right.point(500, 0);
        walked(right, right.triangle(2, 3, 4), 0, -900, right.triangle(0, 1, 4), 2, 1);
        // from (0, 1, 4) up: beyond 1 to 4 ahead of 4 to 0
        walked(right, right.triangle(0, 1, 4), 0, 900, right.triangle(2, 3, 4), 3, 1);
        walked(left, left.triangle(0, 1, 4), 0, 900, left.triangle(2, 3, 4), 2, 1);
        // from (0, 4, 3) to the right: beyond 0 to 4 ahead of 4 to 3; from (1, 2, 4) to the left: 2 to 4 ahead of 4 to 1
        SquareMesh low = Meshes.middle();
        low.point(0, -500);
        walked(low, low.triangle(0, 4, 3), 900, 0, low.triangle(1, 2, 4), 3, 1);
        walked(low, low.triangle(1, 2, 4), -900, 0, low.triangle(0, 4, 3), 2, 1);
        Due.says(26, "outside of the TRIANGLE by it");
        SquareMesh small = small();
        int least = small.triangle(4, 5, 6);
        walked(small, least, 1, -1, small.triangle(4, 7, 5), 1, 1);
        walked(small, least, -1, 1, small.triangle(4, 6, 8), 1, 1);
        walked(small, least, 0, 0, least, 0, 1);
        walked(left, left.triangle(2, 3, 4), 500, 500, left.triangle(2, 3, 4), 0, 1);
    }

    // Fixed edges make a wheel of triangles: round its middle one the walk would never end.
    private static void walkNeverBack() {
        Due.says(26, "beyond which there is a TRIANGLE that was not walked through yet, is crossed; till there is none");
        SquareMesh m = new SquareMesh();
        m.point(800, 500);
        m.point(800, -400);
        m.point(400, 500);
        m.fix(3, 4);
        m.fix(1, 6);
        wheel(m, 600, 300, new int[] {1, 7, 7, 0, 7, 2, 4, 7}, new int[] {6, 7, 7, 6, 7, 6, 6, 0});
        // here 3 lies beside the wheel: from 3 over 4, 6, 2, 1, 0, 5, and 4 was walked through already
        SquareMesh other = new SquareMesh();
        other.point(-900, -500);
        other.point(-500, -500);
        other.point(-800, 200);
        other.fix(1, 3);
        other.fix(4, 1);
        other.fix(6, 0);
        other.fix(3, 5);
        wheel(other, -800, -300, new int[] {7, 2, 7, 7, 7, 0, 4, 7}, new int[] {6, 5, 6, 7, 6, 5, 5, 0});
    }

    private static void wheel(SquareMesh m, int x, int y, int[] ends, int[] edges) {
        int middle = m.in(x, y);
        for (int t = 0; t < ends.length; t++) {
            walked(m, t, x, y, ends[t], edges[t], ends[t] == middle ? 1 : 0);
        }
    }

    private static void walkRefused() {
        Due.says(26, "NONE for others (a place out of the square, too).");
        SquareMesh m = Meshes.middle();
        for (int[] place : Meshes.OUT) {
            for (int what = 0; what < 3; what++) {
                Due.is("walk(0, " + place[0] + ", " + place[1] + ", " + what + ")", m.walk(0, place[0], place[1], what), -1);
            }
        }
        for (int i : new int[] {4, 5, -1, MIN, MAX}) {
            Due.is("walk(" + i + ", 0, 0, 0)", m.walk(i, 0, 0, 0), -1);
        }
        for (int what : new int[] {3, 4, -1, MIN, MAX}) {
            Due.is("walk(0, 0, 1, " + what + ")", m.walk(0, 0, 1, what), -1);
        }
        SquareMesh full = Meshes.full();
        Due.is("from the last one", full.walk(73, 0, 0, 2), 1);
        Due.is("from the one behind it", full.walk(74, 0, 0, 2), -1);
    }

    private static void nearest() {
        Due.says(34, "The POINT nearest to a place, of like ones the least number.");
        SquareMesh m = Meshes.middle();
        Due.is("at a POINT", m.nearest(0, 0), 4);
        Due.is("as far from 2 as from 4", m.nearest(500, 500), 2);
        Due.is("nearer to 4", m.nearest(500, 499), 4);
        Due.is("as far from 0 as from 4", m.nearest(-500, -500), 0);
        Due.is("at a corner", m.nearest(1000, -1000), 1);
        Due.is("on a side, as far from 1, 2 and 4", m.nearest(1000, 0), 1);
        Due.is("of all four", new SquareMesh().nearest(0, 0), 0);
        Due.is("by one to the left and up", new SquareMesh().nearest(-1, 1), 3);
        Due.is("the farthest there can be", new SquareMesh().nearest(1, 0), 1);
        Due.is("the last POINT", Meshes.full().nearest(251, 251), 39);
        Due.says(34, "NONE: the place is out of the square.");
        for (int[] place : Meshes.OUT) {
            Due.is("nearest(" + place[0] + ", " + place[1] + ")", m.nearest(place[0], place[1]), -1);
        }
    }

    private static void circle() {
        Due.says(41, "Whether a place lies inside of the circle through the corners of the i-th TRIANGLE: 1; on it: 0; outside: "
            + "-1.");
        // (4, 5, 6) on the circle by 500 round the middle
        SquareMesh m = new SquareMesh();
        m.point(300, -400);
        m.point(-300, 400);
        m.point(-500, 0);
        int t = m.triangle(4, 5, 6);
        int[][] places = {{0, 0}, {300, 400}, {300, 399}, {300, 401}, {500, 0}, {499, 0}, {501, 0}, {0, -500}, {0, -499},
            {0, -501}, {300, -400}, {-500, 0}, {-300, 400}, {0, 500}, {1000, 1000}, {-1000, -1000}, {-400, 301}, {-400, 300},
            {-400, 299}};
        int[] due = {1, 0, 1, -1, 0, 1, -1, 0, 1, -1, 0, 0, 0, 0, -1, -1, -1, 0, 1};
        for (int k = 0; k < due.length; k++) {
            Due.is("circle(t, " + places[k][0] + ", " + places[k][1] + ")", m.circle(t, places[k][0], places[k][1]), due[k]);
        }
        Due.is("all corners of the square", new SquareMesh().circle(1, 1000, -1000), 0);
        Due.is("all else of it", new SquareMesh().circle(1, 1000, -999), 1);
    }

    private static void circleRefused() {
        Due.says(41, "-2: there is none such, the place is out of the square.");
        SquareMesh m = Meshes.middle();
        for (int i : new int[] {4, 5, -1, -2, MIN, MAX}) {
            Due.is("circle(" + i + ", 0, 0)", m.circle(i, 0, 0), -2);
        }
        for (int[] place : Meshes.OUT) {
            Due.is("circle(0, " + place[0] + ", " + place[1] + ")", m.circle(0, place[0], place[1]), -2);
        }
        SquareMesh full = Meshes.full();
        Due.is("the last one", full.circle(73, full.of(full.corner(73, 0), 0), full.of(full.corner(73, 0), 1)), 0);
        Due.is("the one behind it", full.circle(74, 0, 0), -2);
    }

    private static void cut() {
        Due.says(45, "CUT by a straight line from place to place: EDGES that it crosses (both between their ends).");
        SquareMesh m = Meshes.middle();
        Due.is("over 0 and 4", m.cut(-501, -500, -499, -500), 1);
        Due.is("to it", m.cut(-501, -500, -500, -500), 0);
        Due.is("from it", m.cut(-500, -500, -499, -500), 0);
        Due.is("just to its side", m.cut(-502, -500, -501, -500), 0);
        Due.is("through POINT 4", m.cut(-500, 0, 500, 0), 0);
        Due.is("just over POINT 4", m.cut(-500, 1, 500, 1), 2);
        Due.is("just below POINT 4", m.cut(500, -1, -500, -1), 2);
        Due.is("along EDGES", m.cut(-999, -999, 999, 999), 0);
        Due.is("along the BORDER", m.cut(-1000, -1000, 1000, -1000), 0);
        Due.is("to the BORDER", m.cut(0, -500, 0, -1000), 0);
        Due.is("from side to side", m.cut(-1000, 5, 1000, -5), 0);
        Due.is("from side to side beside it", m.cut(-1000, 5, 1000, -4), 2);
        Due.is("from corner to corner", m.cut(1000, -1000, -1000, 1000), 0);
        Due.says(45, "CUT: how many.");
        Due.is("one place alone", m.cut(7, 7, 7, 7), 0);
        Due.is("one place inside", m.cut(7, 8, 7, 8), 0);
        m.fix(4, 0);
        Due.is("a FIXED one, too", m.cut(-501, -500, -499, -500), 1);
    }

    private static void cutRefused() {
        Due.says(45, "NONE: a place is out of the square.");
        SquareMesh m = Meshes.middle();
        for (int[] place : Meshes.OUT) {
            Due.is("cut(" + place[0] + ", " + place[1] + ", 0, 1)", m.cut(place[0], place[1], 0, 1), -1);
            Due.is("cut(0, 1, " + place[0] + ", " + place[1] + ")", m.cut(0, 1, place[0], place[1]), -1);
        }
        Due.is("both", m.cut(MIN, MIN, MAX, MAX), -1);
        Due.is("both in its corners", m.cut(1000, 1000, -1000, 1000), 0);
    }
}
