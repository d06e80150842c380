/** What the document says THE MESH is, and of its counts, points, triangles and edges (promises 15 to 23). */
final class MeshSentences {
    private static final int MIN = Meshes.MIN;
    private static final int MAX = Meshes.MAX;
    // all twelve places on the circle by 500 round the middle
    private static final int[] CIRCLE = {300, 400, -300, 400, -300, -400, 300, -400, 500, 0, 0, 500, -500, 0, 0, -500,
        400, 300, -400, 300, -400, -300, 400, -300};

    private MeshSentences() {
    }

    static void all() {
        circles();
        circlesOfFour();
        aheadOfAll();
        oneMeshAlone();
        wholeMeshes();
        order();
        counts();
        countsOfAngles();
        countsRefused();
        ofPoint();
        ofBorder();
        ofOthers();
        at();
        corner();
        beyond();
        area();
        triangle();
        isEdge();
        isFixed();
        changesNothing();
    }

    private static void circles() {
        Due.says(2, "d is outside of the circle through a, b, c; or on it, and of a, b, c, d the one that is AHEAD of all "
            + "others is a or b");
        // 4 (-300, -400), 5 (300, -400), 6 (300, 400), 7 (-300, 400); 4 is AHEAD
        Due.is("all on one circle", Meshes.told(-300, -400, 300, -400, 300, 400, -300, 400).isEdge(4, 6), true);
        int[][] outside = {{-1, 0}, {1, 0}, {1, 0}, {-1, 0}};
        for (int p = 0; p < 4; p++) {
            int[] places = {-300, -400, 300, -400, 300, 400, -300, 400};
            places[2 * p] += outside[p][0];
            Due.is((4 + p) + " outside", Meshes.told(places).isEdge(4, 6), p % 2 == 1);
            Due.is((4 + p) + " outside, the other", Meshes.told(places).isEdge(5, 7), p % 2 == 0);
            places[2 * p] -= 2 * outside[p][0];
            Due.is((4 + p) + " inside", Meshes.told(places).isEdge(4, 6), p % 2 == 0);
            Due.is((4 + p) + " inside, the other", Meshes.told(places).isEdge(5, 7), p % 2 == 1);
        }
    }

    private static void circlesOfFour() {
        Due.says(2, "Of each EDGE (a, b) of two TRIANGLES (a, b, c) and (b, a, d) that isn't FIXED");
        SquareMesh m = Meshes.four();
        m.fix(5, 7);
        Due.is("a FIXED one stays", m.isEdge(5, 7), true);
        m.move(4, 0, 1);
        Due.is("whatever moves", m.isEdge(5, 7), true);
        m.free(5, 7);
        Due.is("FREED", m.isEdge(5, 7), false);
    }

    private static void aheadOfAll() {
        Due.says(2, "AHEAD of another POINT is one with the lesser X, of like X the lesser Y.");
        Due.is("the lesser X", Meshes.told(0, -100, 100, 0, 0, 100, -100, 0).isEdge(7, 5), true);
        Due.is("not the lesser Y", Meshes.told(0, -100, 100, 0, 0, 100, -100, 0).isEdge(4, 6), false);
        Due.is("of like X the lesser Y", Meshes.told(-100, 100, 100, 100, 100, -100, -100, -100).isEdge(7, 5), true);
        Due.is("not the greater Y", Meshes.told(-100, 100, 100, 100, 100, -100, -100, -100).isEdge(4, 6), false);
        SquareMesh round = Meshes.told(CIRCLE);
        // (-500, 0) is point 10
        for (int p = 4; p < 16; p++) {
            Due.is("from the one AHEAD to " + p, round.isEdge(10, p), p != 10);
        }
        round.drop(10);
        // (-400, -300) is AHEAD of (-400, 300) then: point 14
        for (int p = 4; p < 16; p++) {
            Due.is("from the next one to " + p, round.isEdge(14, p), p != 14 && p != 10);
        }
    }

    private static void oneMeshAlone() {
        Due.says(2, "There is just one such MESH.");
        SquareMesh m = Meshes.told(CIRCLE);
        SquareMesh other = new SquareMesh();
        for (int k = CIRCLE.length - 2; k >= 0; k -= 2) {
            other.point(CIRCLE[k], CIRCLE[k + 1]);
        }
        Due.same("told the other way round", new WholeMesh(other).byPlaces().toString(), new WholeMesh(m).byPlaces().toString());
        SquareMesh moved = new SquareMesh();
        for (int k = 0; k < CIRCLE.length / 2; k++) {
            moved.point(-700 + 50 * k, 37 * k);
        }
        for (int k = 0; k < CIRCLE.length / 2; k++) {
            moved.move(4 + k, CIRCLE[2 * k], CIRCLE[2 * k + 1]);
        }
        Due.same("moved there", Meshes.shape(moved), Meshes.shape(m));
        moved.fix(4, 14);
        moved.fix(5, 13);
        moved.free(4, 14);
        Due.is("one is FIXED, another one was", moved.isEdge(5, 13), true);
        moved.free(5, 13);
        Due.same("fixed and freed", Meshes.shape(moved), Meshes.shape(m));
    }

    private static void wholeMeshes() {
        Due.says(2, "TRIANGLES of POINTS, none of area 0, that share no inner place with one another, fill the square, no "
            + "POINT inside of one or on an EDGE of one but at its corners; each FIXED EDGE is an EDGE of some TRIANGLE.");
        whole("new", new SquareMesh(), 4);
        whole("all on a grid", Meshes.full(), 4);
        whole("on a circle", Meshes.told(CIRCLE), 4);
        whole("halves", Meshes.halves(), 6);
        SquareMesh line = new SquareMesh();
        for (int k = 0; k < 18; k++) {
            line.point(-999 + k, 0);
            line.point(999 - k, 0);
        }
        line.fix(38, 39);
        whole("all on one line", line, 5);
        SquareMesh border = new SquareMesh();
        for (int k = 0; k < 9; k++) {
            border.point(1000, k);
            border.point(-1000, k);
            border.point(k, 1000);
            border.point(k, -1000);
        }
        whole("all on the BORDER", border, 40);
        SquareMesh fan = new SquareMesh();
        fan.point(-999, 0);
        fan.point(999, 0);
        for (int k = 0; k < 12; k++) {
            fan.point(-600 + 100 * k, k % 2 == 0 ? 1 : -1);
        }
        fan.fix(4, 5);
        whole("a long FIXED EDGE", fan, 5);
        SquareMesh drawn = new SquareMesh();
        drawn.drawn(20, 1000);
        drawn.drawn(16, 3);
        drawn.fix(0, 2);
        drawn.fix(1, 3);
        whole("drawn", drawn, drawn.is(3));
    }

    private static void whole(String name, SquareMesh m, int fixed) {
        WholeMesh w = new WholeMesh(m);
        Due.is(name + ": TRIANGLES of area 0", w.flat(), 0);
        Due.is(name + ": the square", w.doubleArea(), 8000000);
        Due.is(name + ": EDGES alone", w.loose(), 0);
        Due.is(name + ": POINTS within", w.held(), 0);
        Due.is(name + ": FIXED EDGES", w.fixedEdges(), fixed);
        Due.is(name + ": FIXED EDGES by POINTS", w.fixedEnds(), fixed);
        Due.is(name + ": circles that aren't empty", w.unruly(), 0);
        Due.is(name + ": against the clock, in order", w.disorderly(), 0);
    }

    private static void order() {
        Due.says(18, "A TRIANGLE is told by its corners against the clock (X to the right, Y up), the least number first.");
        // 4 (0, 0), 5 (0, -500): of 0, 4, 5 the one with the clock is 0, 4, 5
        SquareMesh m = Meshes.told(0, 0, 0, -500);
        int[] corners = {0, 1, 5, 0, 4, 3, 0, 5, 4, 1, 2, 4, 1, 4, 5, 2, 3, 4};
        for (int k = 0; k < corners.length; k++) {
            Due.is("corner(" + k / 3 + ", " + k % 3 + ")", m.corner(k / 3, k % 3), corners[k]);
        }
        Due.says(18, "TRIANGLES are in order by their first corner, then the second, then the third.");
        Due.is("first corners: 0 ahead of 1", m.triangle(0, 5, 4) < m.triangle(1, 2, 4), true);
        Due.is("second corners: 1, 4, 5", m.triangle(0, 1, 5) + 1 == m.triangle(0, 4, 3), true);
        Due.is("whatever the third one is", m.triangle(0, 4, 3) < m.triangle(0, 5, 4), true);
        SquareMesh full = Meshes.full();
        Due.is("on a full one", new WholeMesh(full).disorderly(), 0);
    }

    private static void counts() {
        Due.says(15, "0 POINTS, 1 TRIANGLES, 2 EDGES, 3 FIXED ones, 4 BORDER ones, 5 REGIONS, 6 G, 7 BENT ones, 8 HOLES, "
            + "9 HOLLOW REGIONS, 10 BLUNT TRIANGLES, 11 RIGHT ones, 12 COLOURS that there are.");
        int[] least = {4, 2, 5, 4, 4, 1, 313, 0, 0, 0, 0, 2, 3};
        SquareMesh m = new SquareMesh();
        for (int what = 0; what < 13; what++) {
            Due.is("is(" + what + ") of a new one", m.is(what), least[what]);
        }
        SquareMesh full = Meshes.full();
        Due.is("POINTS", full.is(0), 40);
        Due.is("TRIANGLES", full.is(1), 74);
        Due.is("EDGES", full.is(2), 113);
        SquareMesh border = new SquareMesh();
        for (int k = 0; k < 36; k++) {
            border.point(k, 1000);
        }
        Due.is("TRIANGLES with all on the BORDER", border.is(1), 38);
        Due.is("EDGES with all on the BORDER", border.is(2), 77);
        Due.is("FIXED ones", border.is(3), 40);
        Due.is("BORDER ones", border.is(4), 40);
        SquareMesh all = Meshes.middle();
        for (int p = 0; p < 4; p++) {
            all.fix(p, 4);
            all.hole(all.of(p, 0), 0);
        }
        Due.is("REGIONS", all.is(5), 4);
        Due.is("HOLES", all.is(8), 4);
        Due.is("HOLLOW REGIONS", all.is(9), 2);
        Due.is("FIXED ones, not BORDER ones", all.is(3), 8);
        Due.is("BORDER ones alone", all.is(4), 4);
    }

    private static void countsOfAngles() {
        Due.says(15, "BLUNT: TRIANGLES with a corner of more than a right angle; RIGHT: with one of just that.");
        SquareMesh m = Meshes.middle();
        Due.is("BLUNT", m.is(10), 0);
        Due.is("RIGHT", m.is(11), 4);
        m.move(4, 0, 1);
        // above it more than a right angle, to all other sides less
        Due.is("BLUNT by one", m.is(10), 1);
        Due.is("RIGHT by none", m.is(11), 0);
        m.move(4, 0, -1);
        Due.is("BLUNT by one below", m.is(10), 1);
        SquareMesh side = Meshes.told(-1000, 0);
        // 0, 1, 4 and 3, 4, 2 have right angles; 1, 2, 4 none
        Due.is("RIGHT of three", side.is(11), 2);
        Due.is("BLUNT of three", side.is(10), 0);
        Due.is("a square has just two", new SquareMesh().is(11), 2);
    }

    private static void countsRefused() {
        Due.says(15, "NONE for others.");
        SquareMesh m = Meshes.four();
        for (int what : new int[] {-1, -2, 13, 14, 100, 1 << 16, MIN, MAX}) {
            Due.is("is(" + what + ")", m.is(what), -1);
        }
    }

    private static void ofPoint() {
        Due.says(16, "Of a POINT: 0 X, 1 Y (-100000 for others), 2 how many EDGES, 3 how many FIXED ones");
        SquareMesh m = Meshes.middle();
        m.fix(4, 0);
        Due.is("of(4, 0)", m.of(4, 0), 0);
        Due.is("of(3, 1)", m.of(3, 1), 1000);
        Due.is("of(4, 2)", m.of(4, 2), 4);
        Due.is("of(4, 3)", m.of(4, 3), 1);
        Due.is("of(0, 3)", m.of(0, 3), 3);
        SquareMesh wheel = new SquareMesh();
        wheel.point(0, 0);
        for (int k = 0; k < 35; k++) {
            wheel.point(k - 17, 1000);
        }
        Due.is("EDGES to all others", wheel.of(4, 2), 39);
        for (int p = 0; p < 40; p++) {
            wheel.fix(4, p);
        }
        Due.is("all FIXED", wheel.of(4, 3), 39);
        Due.is("the last one's X", wheel.of(39, 0), 17);
        Due.is("the last one's FIXED ones", wheel.of(39, 3), 3);
    }

    private static void ofBorder() {
        Due.says(16, "4 whether it lies on the BORDER (1, 0)");
        SquareMesh m = Meshes.told(999, 0, -999, 1, 2, 999, 3, -999, 1000, 4, -1000, 5, 6, 1000, 7, -1000);
        for (int p = 0; p < 12; p++) {
            Due.is("of(" + p + ", 4)", m.of(p, 4), p < 4 || p > 7 ? 1 : 0);
        }
        m.fix(4, 1);
        Due.is("FIXED to the BORDER", m.of(4, 4), 0);
        m.move(5, 998, 998);
        Due.is("near a corner", m.of(5, 4), 0);
        m.move(6, -1000, -999);
        Due.is("moved there", m.of(6, 4), 1);
    }

    private static void ofOthers() {
        SquareMesh m = Meshes.four();
        for (int p : Meshes.noPoints(8)) {
            Due.says(16, "0 X, 1 Y (-100000 for others)");
            Due.is("of(" + p + ", 0)", m.of(p, 0), -100000);
            Due.is("of(" + p + ", 1)", m.of(p, 1), -100000);
            Due.says(16, "5 its HEIGHT (-100000 for no such POINT).");
            Due.is("of(" + p + ", 5)", m.of(p, 5), -100000);
            Due.says(16, "NONE for others.");
            for (int what : new int[] {2, 3, 4, 6, -1, MIN, MAX}) {
                Due.is("of(" + p + ", " + what + ")", m.of(p, what), -1);
            }
        }
        for (int p = 0; p < 8; p++) {
            for (int what : new int[] {-1, 6, 7, MIN, MAX}) {
                Due.is("of(" + p + ", " + what + ")", m.of(p, what), -1);
            }
        }
        Due.says(16, "(-100000 for no such POINT)");
        m.height(7, 5);
        m.drop(7);
        Due.is("TAKEN OUT", m.of(7, 5), -100000);
    }

    private static void at() {
        Due.says(17, "Which POINT is at a place.");
        SquareMesh m = Meshes.four();
        for (int p = 0; p < 8; p++) {
            Due.is("at the place of " + p, m.at(m.of(p, 0), m.of(p, 1)), p);
        }
        Due.is("the last POINT", Meshes.full().at(250, 250), 39);
        Due.says(17, "NONE: none.");
        int[][] places = {{0, 0}, {100, 99}, {100, 101}, {99, 100}, {101, 100}, {1001, 1000}, {-1000, -1001}, {MIN, MIN},
            {MAX, MAX}, {100 + (1 << 16), 100}, {-100000, -100000}};
        for (int[] place : places) {
            Due.is("at(" + place[0] + ", " + place[1] + ")", m.at(place[0], place[1]), -1);
        }
        m.move(4, 1, 2);
        Due.is("where one was", m.at(100, 100), -1);
        m.drop(4);
        Due.is("where one was ahead of TAKEN OUT", m.at(1, 2), -1);
    }

    private static void corner() {
        Due.says(18, "The k-th corner (0 .. 2) of the i-th TRIANGLE.");
        SquareMesh full = Meshes.full();
        Due.is("corner(0, 0)", full.corner(0, 0), 0);
        Due.is("the last one of the last", full.corner(73, 2) > full.corner(73, 0), true);
        Due.says(18, "NONE: there is none such.");
        for (int k = 0; k < 3; k++) {
            for (int i : new int[] {74, 75, -1, 1 << 16, MIN, MAX}) {
                Due.is("corner(" + i + ", " + k + ")", full.corner(i, k), -1);
            }
        }
        for (int k : new int[] {3, 4, -1, MIN, MAX}) {
            Due.is("corner(0, " + k + ")", full.corner(0, k), -1);
            Due.is("corner(73, " + k + ")", full.corner(73, k), -1);
        }
        Due.is("corner(2, 0) of two", new SquareMesh().corner(2, 0), -1);
    }

    private static void beyond() {
        Due.says(19, "The TRIANGLE beyond the k-th EDGE (from corner k to the next one) of the i-th TRIANGLE.");
        // (0, 1, 4), (0, 4, 3), (1, 2, 4), (2, 3, 4)
        SquareMesh m = Meshes.middle();
        int[] due = {-1, 2, 1, 0, 3, -1, -1, 3, 0, -1, 1, 2};
        for (int k = 0; k < 12; k++) {
            Due.is("beyond(" + k / 3 + ", " + k % 3 + ")", m.beyond(k / 3, k % 3), due[k]);
        }
        m.fix(0, 4);
        Due.is("over a FIXED EDGE", m.beyond(0, 2), 1);
        Due.says(19, "NONE: none, and for others.");
        Due.is("none", m.beyond(0, 0), -1);
        for (int k = 0; k < 3; k++) {
            for (int i : new int[] {4, 5, -1, MIN, MAX}) {
                Due.is("beyond(" + i + ", " + k + ")", m.beyond(i, k), -1);
            }
        }
        for (int i = 0; i < 4; i++) {
            for (int k : new int[] {3, 4, -1, MIN, MAX}) {
                Due.is("beyond(" + i + ", " + k + ")", m.beyond(i, k), -1);
            }
        }
    }

    private static void area() {
        Due.says(20, "DOUBLE AREA: a whole number.");
        SquareMesh small = Meshes.told(0, 0, 1, 0, 0, 1);
        Due.is("the least", small.area(small.triangle(4, 5, 6)), 1);
        Due.is("the greatest", new SquareMesh().area(0), 4000000);
        Due.says(20, "DOUBLE AREA of the i-th TRIANGLE.");
        SquareMesh m = Meshes.told(0, 500);
        Due.is("area(0)", m.area(0), 3000000);
        Due.is("area(3)", m.area(3), 1000000);
        Due.says(20, "NONE: there is none such.");
        for (int i : new int[] {4, 5, -1, MIN, MAX}) {
            Due.is("area(" + i + ")", m.area(i), -1);
        }
        SquareMesh full = Meshes.full();
        Due.is("area(73)", full.area(73) > 0, true);
        Due.is("area(74)", full.area(74), -1);
    }

    private static void triangle() {
        Due.says(21, "Which TRIANGLE has three POINTS as corners, in any order.");
        SquareMesh m = Meshes.told(0, 500);
        int[][] orders = {{2, 3, 4}, {2, 4, 3}, {3, 2, 4}, {3, 4, 2}, {4, 2, 3}, {4, 3, 2}};
        for (int[] o : orders) {
            Due.is("triangle(" + o[0] + ", " + o[1] + ", " + o[2] + ")", m.triangle(o[0], o[1], o[2]), 3);
        }
        Due.says(21, "NONE: none, and for others.");
        Due.is("three POINTS without EDGES", m.triangle(0, 1, 2), -1);
        // three edges round point 4 are no TRIANGLE
        SquareMesh round = Meshes.told(0, 0, -300, -300, 300, -300, 0, 300);
        Due.is("EDGES all round", round.isEdge(5, 6) && round.isEdge(6, 7) && round.isEdge(5, 7), true);
        Due.is("no TRIANGLE", round.triangle(5, 6, 7), -1);
        Due.is("like ones", m.triangle(4, 4, 0), -1);
        Due.is("all like ones", m.triangle(4, 4, 4), -1);
        for (int p : Meshes.noPoints(5)) {
            Due.is("triangle(0, 1, " + p + ")", m.triangle(0, 1, p), -1);
            Due.is("triangle(1, 0, " + p + ")", m.triangle(1, 0, p), -1);
            Due.is("triangle(" + p + ", 2, 3)", m.triangle(p, 2, 3), -1);
            Due.is("triangle(2, " + p + ", 4)", m.triangle(2, p, 4), -1);
        }
    }

    private static void isEdge() {
        Due.says(22, "Whether there is such an EDGE (of like ones none).");
        SquareMesh m = Meshes.middle();
        for (int a = 0; a < 5; a++) {
            for (int b = 0; b < 5; b++) {
                Due.is("isEdge(" + a + ", " + b + ")", m.isEdge(a, b), a != b && (a == 4 || b == 4 || a + b != 2 && a + b != 4));
            }
        }
        Due.says(22, "False for others.");
        for (int p : Meshes.noPoints(5)) {
            Due.is("isEdge(0, " + p + ")", m.isEdge(0, p), false);
            Due.is("isEdge(" + p + ", 4)", m.isEdge(p, 4), false);
            Due.is("isEdge(" + p + ", " + p + ")", m.isEdge(p, p), false);
        }
        m.drop(4);
        Due.is("to one TAKEN OUT", m.isEdge(0, 4), false);
    }

    private static void isFixed() {
        Due.says(23, "Whether it is a FIXED EDGE.");
        SquareMesh m = Meshes.middle();
        m.fix(4, 2);
        for (int a = 0; a < 5; a++) {
            for (int b = 0; b < 5; b++) {
                boolean side = a < 4 && b < 4 && (a + b) % 2 == 1;
                Due.is("isFixed(" + a + ", " + b + ")", m.isFixed(a, b), side || a + b == 6 && a != b && (a == 4 || b == 4));
            }
        }
        Due.says(23, "False for others.");
        for (int p : Meshes.noPoints(5)) {
            Due.is("isFixed(0, " + p + ")", m.isFixed(0, p), false);
            Due.is("isFixed(" + p + ", 1)", m.isFixed(p, 1), false);
            Due.is("isFixed(" + p + ", " + p + ")", m.isFixed(p, p), false);
        }
    }

    private static void changesNothing() {
        Due.says(15, "All that follows changes nothing but what is told.");
        SquareMesh m = Meshes.four();
        m.fix(5, 7);
        m.hole(500, 500);
        m.height(6, -4);
        m.image();
        m.fill();
        String state = Meshes.state(m);
        m.walk(0, 900, 900, 1);
        m.ring(4, 2);
        m.crossed(0, 2);
        m.seen(4);
        m.tree(3, 0);
        m.way(0, 2, 1);
        m.shortest(0, 2, 1);
        m.bent(0);
        m.circle(0, 3, 3);
        m.colour(7);
        m.centre(0);
        m.cut(-1000, 3, 1000, -3);
        m.heightAt(3, 3);
        m.drain(4, 0);
        m.passage(-900, -900, 900, 900, 1);
        m.hull(2);
        m.wouldPoint(33, 33);
        m.wouldDrop(6);
        m.wouldFix(4, 2);
        m.wouldFree(5, 7);
        m.mean();
        m.in(7, 7);
        m.star(4, 1);
        m.nearest(0, 0);
        Due.same("all", Meshes.state(m), state);
        Due.is("nor the STEPS", m.undo(), 7);
        Due.is("the HOLE", m.is(8), 1);
        Due.is("nor THE IMAGE", m.fresh(), 0);
    }
}
