/** What the document says of the hull, and of what a point or an edge more or less would change (promises 53 to 57). */
final class HullSentences {
    private static final int MIN = Meshes.MIN;
    private static final int MAX = Meshes.MAX;

    private HullSentences() {
    }

    static void all() {
        hullOfFew();
        hullOfALine();
        hull();
        hullAhead();
        hullRefused();
        wouldPoint();
        wouldPointRefused();
        wouldDrop();
        wouldFix();
        wouldFree();
        wouldChangesNothing();
    }

    private static void isHull(String name, SquareMesh m, int... due) {
        Due.is(name + ": hull(-1)", m.hull(-1), due.length);
        for (int k = 0; k < due.length; k++) {
            Due.is(name + ": hull(" + k + ")", m.hull(k), due[k]);
        }
        Due.is(name + ": hull(" + due.length + ")", m.hull(due.length), -1);
    }

    private static void hullOfFew() {
        Due.says(53, "HULL: of POINTS 4 .. 39");
        isHull("none of these", new SquareMesh());
        SquareMesh full = Meshes.full();
        isHull("a grid of all", full, 4, 9, 39, 34);
        Due.says(53, "(one or two POINTS, or all on one straight line: the ends)");
        isHull("one", Meshes.told(7, 7), 4);
        isHull("one in a corner", Meshes.told(999, 1000), 4);
        isHull("two", Meshes.told(7, 7, 8, 9), 4, 5);
        isHull("two, the one AHEAD told last", Meshes.told(8, 9, 7, 7), 5, 4);
        isHull("two of like X", Meshes.told(7, 9, 7, 8), 5, 4);
        SquareMesh m = Meshes.told(1, 1, 2, 2, 3, 1);
        m.drop(4);
        m.drop(5);
        isHull("one that is left", m, 6);
        m.drop(6);
        isHull("none that is left", m);
    }

    private static void hullOfALine() {
        Due.says(53, "all on one straight line: the ends");
        isHull("to the right", Meshes.told(0, 0, 30, 0, 10, 0), 4, 5);
        isHull("up", Meshes.told(0, 10, 0, 20, 0, -10), 6, 5);
        isHull("slanting", Meshes.told(10, 20, 20, 40, 0, 0, 30, 60), 6, 7);
        isHull("slanting down", Meshes.told(10, -1, 0, 0, 20, -2), 5, 6);
        isHull("but one", Meshes.told(10, 20, 20, 40, 0, 0, 30, 59), 6, 7, 5);
        SquareMesh row = new SquareMesh();
        for (int k = 0; k < 36; k++) {
            row.point(5 * (k * 7 % 36), 2 * (k * 7 % 36));
        }
        isHull("36 of them", row, 4, 9);
    }

    private static void hull() {
        Due.says(53, "those at corners of the least convex shape that has all of them (none on its sides between), against the "
            + "clock, the one AHEAD of all first");
        isHull("three", Meshes.told(0, 0, 10, 0, 0, 10), 4, 5, 6);
        isHull("three, told with the clock", Meshes.told(0, 0, 0, 10, 10, 0), 4, 6, 5);
        isHull("one on a side", Meshes.told(0, 0, 10, 0, 0, 10, 5, 0), 4, 5, 6);
        isHull("one on each side", Meshes.told(0, 0, 10, 0, 0, 10, 5, 0, 5, 5, 0, 5), 4, 5, 6);
        isHull("one just outside of a side", Meshes.told(0, 0, 10, 0, 0, 10, 5, -1), 4, 7, 5, 6);
        isHull("one just inside of a side", Meshes.told(0, 0, 10, 0, 0, 10, 5, 1), 4, 5, 6);
        isHull("one inside", Meshes.told(0, 0, 10, 0, 0, 10, 2, 2), 4, 5, 6);
        isHull("a DOUBLE AREA of 1", Meshes.told(0, 0, 1, 1, 1, 0), 4, 6, 5);
        isHull("a DOUBLE AREA of 1, the other way", Meshes.told(0, 0, 1, 0, 1, 1), 4, 5, 6);
        isHull("on the first side, told ahead", Meshes.told(5, 0, 0, 0, 10, 0, 0, 10), 5, 6, 7);
        isHull("on the last side, told ahead", Meshes.told(0, 5, 0, 0, 10, 0, 0, 10), 5, 6, 7);
        int[] circle = {300, 400, -300, 400, -300, -400, 300, -400, 500, 0, 0, 500, -500, 0, 0, -500, 400, 300, -400, 300,
            -400, -300, 400, -300, 0, 0};
        isHull("all on a circle but one", Meshes.told(circle), 10, 14, 6, 11, 7, 15, 8, 12, 4, 9, 5, 13);
    }

    private static void hullAhead() {
        Due.says(53, "the one AHEAD of all first");
        isHull("of like X the lesser Y", Meshes.told(0, 10, 10, 5, 0, 0), 6, 5, 4);
        isHull("the lesser X, of greater Y", Meshes.told(10, 0, 0, 10, 10, 10), 5, 4, 6);
        SquareMesh m = Meshes.told(0, 0, 10, 0, 0, 10);
        m.move(4, 11, 11);
        isHull("moved", m, 6, 5, 4);
    }

    private static void hullRefused() {
        Due.says(53, "HULL: how many (i NONE), the i-th. NONE: there is none such.");
        SquareMesh m = Meshes.told(0, 0, 10, 0, 0, 10, 2, 2);
        for (int i : new int[] {3, 4, -2, 39, 40, MIN, MAX}) {
            Due.is("hull(" + i + ")", m.hull(i), -1);
        }
        SquareMesh none = new SquareMesh();
        for (int i : new int[] {0, 1, -2, MIN, MAX}) {
            Due.is("hull(" + i + ") of none", none.hull(i), -1);
        }
    }

    private static void wouldPoint() {
        Due.says(54, "WOULD BE: THE MESH with a POINT TOLD, TAKEN OUT, an EDGE FIXED, FREED more: how many of its TRIANGLES "
            + "aren't there now.");
        SquareMesh plain = new SquareMesh();
        Due.is("inside of both circles", plain.wouldPoint(500, -400), 4);
        Due.is("on an EDGE", plain.wouldPoint(0, 0), 4);
        Due.is("on the BORDER", plain.wouldPoint(0, -1000), 3);
        Due.is("inside of one circle", Meshes.middle().wouldPoint(0, -500), 3);
        Due.says(54, "WOULD BE, a POINT TOLD.");
        plain.fix(0, 2);
        Due.is("on a FIXED EDGE", plain.wouldPoint(500, 500), 4);
        SquareMesh full = Meshes.full();
        full.drop(39);
        Due.is("the last one that is free", full.wouldPoint(999, 999) > 0, true);
        Due.is("where it was", full.wouldPoint(250, 250), freshBy(full, 250, 250));
    }

    // how many it is, told and looked at against the image
    private static int freshBy(SquareMesh m, int x, int y) {
        m.image();
        m.point(x, y);
        int fresh = m.fresh();
        m.undo();
        return fresh;
    }

    private static void wouldPointRefused() {
        Due.says(54, "NONE: it can't be.");
        SquareMesh m = Meshes.four();
        for (int[] place : Meshes.OUT) {
            Due.is("wouldPoint(" + place[0] + ", " + place[1] + ")", m.wouldPoint(place[0], place[1]), -1);
        }
        for (int[] place : new int[][] {{100, 100}, {1000, 1000}, {-1000, -1000}}) {
            Due.is("wouldPoint(" + place[0] + ", " + place[1] + ")", m.wouldPoint(place[0], place[1]), -1);
        }
        SquareMesh full = Meshes.full();
        Due.is("no number is free", full.wouldPoint(1, 1), -1);
        full.drop(4);
        Due.is("one is", full.wouldPoint(1, 1) > 0, true);
    }

    private static void wouldDrop() {
        Due.says(55, "WOULD BE, a POINT TAKEN OUT.");
        SquareMesh m = Meshes.middle();
        Due.is("two for four", m.wouldDrop(4), 2);
        SquareMesh three = Meshes.middle();
        three.point(0, -500);
        Due.is("one for three", three.wouldDrop(5), 1);
        Due.is("the last POINT", Meshes.full().wouldDrop(39) > 0, true);
        Due.says(55, "NONE: it can't be.");
        for (int p = 0; p < 4; p++) {
            Due.is("wouldDrop(" + p + ")", m.wouldDrop(p), -1);
        }
        for (int p : Meshes.noPoints(5)) {
            Due.is("wouldDrop(" + p + ")", m.wouldDrop(p), -1);
        }
        m.fix(4, 2);
        Due.is("at a FIXED EDGE", m.wouldDrop(4), -1);
        m.point(1000, 0);
        Due.is("on the BORDER", m.wouldDrop(5), -1);
        m.free(4, 2);
        Due.is("FREED", m.wouldDrop(4) > 0, true);
    }

    private static void wouldFix() {
        Due.says(56, "WOULD BE, an EDGE FIXED.");
        SquareMesh m = Meshes.four();
        Due.is("across one", m.wouldFix(5, 7), 2);
        Due.is("an EDGE that is there", m.wouldFix(4, 6), 0);
        Due.is("an EDGE of the square's", new SquareMesh().wouldFix(2, 0), 0);
        Due.is("across the square", new SquareMesh().wouldFix(3, 1), 2);
        Due.says(56, "NONE: it can't be.");
        Due.is("a BORDER one", m.wouldFix(0, 1), -1);
        Due.is("a POINT between", m.wouldFix(0, 4), -1);
        m.fix(5, 7);
        Due.is("FIXED already", m.wouldFix(7, 5), -1);
        Due.is("across a FIXED one", m.wouldFix(4, 6), -1);
        for (int p = 0; p < 8; p++) {
            Due.is("wouldFix(" + p + ", " + p + ")", m.wouldFix(p, p), -1);
        }
        for (int p : Meshes.noPoints(8)) {
            Due.is("wouldFix(4, " + p + ")", m.wouldFix(4, p), -1);
            Due.is("wouldFix(" + p + ", 4)", m.wouldFix(p, 4), -1);
        }
    }

    private static void wouldFree() {
        Due.says(57, "WOULD BE, an EDGE FREED.");
        SquareMesh m = Meshes.four();
        m.fix(5, 7);
        m.fix(4, 5);
        Due.is("a BENT one", m.wouldFree(7, 5), 2);
        Due.is("one that stays an EDGE", m.wouldFree(4, 5), 0);
        Due.says(57, "NONE: it can't be.");
        for (int p = 0; p < 4; p++) {
            Due.is("wouldFree(" + p + ", " + (p + 1) % 4 + ")", m.wouldFree(p, (p + 1) % 4), -1);
            Due.is("wouldFree(" + p + ", " + p + ")", m.wouldFree(p, p), -1);
        }
        Due.is("an EDGE that isn't FIXED", m.wouldFree(5, 6), -1);
        Due.is("no EDGE", m.wouldFree(4, 6), -1);
        for (int p : Meshes.noPoints(8)) {
            Due.is("wouldFree(4, " + p + ")", m.wouldFree(4, p), -1);
            Due.is("wouldFree(" + p + ", 5)", m.wouldFree(p, 5), -1);
        }
        m.point(1000, 0);
        Due.is("a BORDER one that came", m.wouldFree(8, 1), -1);
    }

    private static void wouldChangesNothing() {
        Due.says(54, "All that follows changes nothing but what is told.");
        SquareMesh m = Meshes.four();
        m.fix(5, 7);
        m.height(4, 3);
        String state = Meshes.state(m);
        m.wouldPoint(33, 3);
        m.wouldPoint(0, 0);
        m.wouldPoint(1000, 5);
        m.wouldDrop(4);
        m.wouldFix(4, 5);
        m.wouldFix(0, 5);
        m.wouldFree(5, 7);
        Due.same("all", Meshes.state(m), state);
        Due.is("twice the same", m.wouldFree(5, 7), m.wouldFree(5, 7));
        // 4 has 2, 3, 5 and 7
        Due.is("two for four", m.wouldDrop(4), 2);
        m.image();
        m.drop(4);
        Due.is("as it would be", m.fresh(), 2);
    }
}
