/**
 * Whatever is told, taken out, moved, fixed or freed, THE MESH is the one that the document says, and the same by every
 * way to it (promises 2 to 6).
 */
final class ChangeSentences {
    private ChangeSentences() {
    }

    static void all() {
        takenOut();
        takenOutOfMany();
        toldOrMoved();
        fixed();
        fixedThroughMany();
        freedOfMany();
    }

    /** Some fifteen points close together or far apart, many of them on common lines and circles. */
    private static SquareMesh drawn(int g, int within) {
        SquareMesh m = new SquareMesh();
        m.tell(g);
        m.drawn(15, within);
        return m;
    }

    private static int within(int g) {
        int[] some = {2, 3, 5, 40, 1000};
        return some[g % some.length];
    }

    private static void whole(String name, SquareMesh m) {
        WholeMesh w = new WholeMesh(m);
        Due.is(name + ": TRIANGLES of area 0", w.flat(), 0);
        Due.is(name + ": the square", w.doubleArea(), 8000000);
        Due.is(name + ": EDGES alone", w.loose(), 0);
        Due.is(name + ": POINTS within", w.held(), 0);
        Due.is(name + ": FIXED EDGES that are EDGES", w.fixedEdges(), w.fixedEnds());
        Due.is(name + ": circles that aren't empty", w.unruly(), 0);
    }

    private static void takenOut() {
        Due.says(3, "TAKEN OUT");
        // a STAR with a corner that goes inward, one with a flat corner, one with a POINT just beside a line
        SquareMesh inward = Meshes.told(300, -100, 200, 200, 200, 300, -100, 200, -100, 300);
        Due.is("inward: drop(7)", inward.drop(7), true);
        whole("inward", inward);
        SquareMesh beside = Meshes.told(2, 2, -1, 0, 0, -1);
        Due.is("beside: drop(4)", beside.drop(4), true);
        whole("beside", beside);
        SquareMesh flat = Meshes.told(1, -1, 1, 1, 1, 0, 0, 0, 0, -1, -1, 0);
        Due.is("flat: drop(8)", flat.drop(8), true);
        whole("flat", flat);
    }

    private static void takenOutOfMany() {
        Due.says(3, "There is just one such MESH.");
        for (int g = 0; g < 40; g++) {
            SquareMesh m = drawn(g, within(g));
            int p = 4 + g % (m.is(0) - 4);
            SquareMesh without = new SquareMesh();
            for (int q = 39; q >= 4; q--) {
                if (q != p && m.of(q, 0) != -100000) {
                    without.point(m.of(q, 0), m.of(q, 1));
                }
            }
            if (m.drop(p)) {
                Due.same("drop(" + p + ") by G " + g, places(m), places(without));
            }
        }
    }

    private static String places(SquareMesh m) {
        return new WholeMesh(m).byPlaces().toString();
    }

    private static void toldOrMoved() {
        Due.says(4, "There is just one such MESH.");
        for (int g = 0; g < 40; g++) {
            SquareMesh m = drawn(g, within(g));
            int x = within(g) - g % 3;
            int y = -within(g) + g % 2;
            int p = 4 + g % (m.is(0) - 4);
            SquareMesh other = drawn(g, within(g));
            int fixed = other.is(3);
            if (m.move(p, x, y)) {
                Due.is("drop(" + p + ") by G " + g, other.drop(p), true);
                int q = other.point(x, y);
                Due.is("TOLD there, the same number", q, p);
                Due.same("MOVED as TAKEN OUT, then TOLD", Meshes.shape(m), Meshes.shape(other));
                whole("MOVED by G " + g, m);
                Due.is("FIXED EDGES split alone", m.is(3) >= fixed, true);
            }
        }
    }

    private static void fixed() {
        Due.says(5, "each FIXED EDGE is an EDGE of some TRIANGLE");
        // EDGES come that cross it, too, while those that cross it go
        SquareMesh four = Meshes.told(100, 0, 0, 200, -100, 0, 200, 100);
        Due.is("fix(0, 2)", four.fix(0, 2), true);
        Due.is("isEdge(0, 2)", four.isEdge(0, 2), true);
        whole("fix(0, 2)", four);
        // POINT 0 is the third corner beside an EDGE that crosses it
        SquareMesh three = Meshes.told(200, -200, -200, 100, 300, -200);
        Due.is("fix(2, 0)", three.fix(2, 0), true);
        Due.is("isEdge(2, 0)", three.isEdge(2, 0), true);
        whole("fix(2, 0)", three);
        // 0 to 4, the first EDGE of all, goes
        SquareMesh first = Meshes.told(0, 0, 0, -1000, -1000, 0);
        Due.is("isEdge(0, 4)", first.isEdge(0, 4), true);
        Due.is("fix(5, 6)", first.fix(5, 6), true);
        Due.is("isEdge(5, 6)", first.isEdge(5, 6), true);
        whole("fix(5, 6)", first);
        // a row above, a row below: all in line with it
        SquareMesh rows = Meshes.told(-500, 0, 500, 0);
        for (int k = 0; k < 8; k++) {
            rows.point(-400 + 100 * k, 50);
            rows.point(-400 + 100 * k, -50);
        }
        Due.is("fix(4, 5)", rows.fix(4, 5), true);
        Due.is("isEdge(4, 5)", rows.isEdge(4, 5), true);
        whole("fix(4, 5)", rows);
    }

    private static void fixedThroughMany() {
        Due.says(5, "no other POINT between both on the straight line, no FIXED EDGE that crosses it (both between their ends)");
        for (int g = 0; g < 40; g++) {
            SquareMesh m = drawn(g, within(g));
            int points = m.is(0);
            int fixed = m.is(3);
            for (int k = 0; k < 8; k++) {
                int p = (g + 3 * k) % points;
                int q = (7 * k + 2 * g + 1) % points;
                boolean can = m.sees(p, q) && !m.isFixed(p, q);
                Due.is("fix(" + p + ", " + q + ") by G " + g, m.fix(p, q), can);
                fixed += can ? 1 : 0;
            }
            Due.is("is(3) by G " + g, m.is(3), fixed);
            whole("FIXED by G " + g, m);
        }
    }

    private static void freedOfMany() {
        Due.says(6, "There is just one such MESH.");
        for (int g = 0; g < 40; g++) {
            SquareMesh m = drawn(g, within(g));
            String ahead = Meshes.shape(m);
            int points = m.is(0);
            int[] ends = new int[12];
            for (int k = 0; k < 6; k++) {
                int p = (g + 5 * k) % points;
                int q = (3 * k + g + 1) % points;
                boolean done = m.fix(p, q);
                ends[2 * k] = done ? p : -1;
                ends[2 * k + 1] = done ? q : -1;
            }
            for (int k = 0; k < 6; k++) {
                Due.is("free(" + ends[2 * k] + ", " + ends[2 * k + 1] + ")", m.free(ends[2 * k], ends[2 * k + 1]), ends[2 * k] >= 0);
            }
            Due.same("as ahead of it by G " + g, Meshes.shape(m), ahead);
        }
    }
}
