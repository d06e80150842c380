/** What the document says of points told, taken out and moved, and of edges fixed and freed (promises 1 to 6). */
final class PointSentences {
    private PointSentences() {
    }

    static void all() {
        theNewObject();
        calls512();
        placesInTheSquare();
        noTwoAtOne();
        numbers();
        onFixedEdges();
        notOnFixedEdges();
        onTheBorder();
        pointRefused();
        alwaysThere();
        takenOut();
        dropRefused();
        moved();
        movedOntoFixed();
        ownPlace();
        moveRefused();
        fixedTwos();
        nothingBetween();
        nothingCrosses();
        fixRefused();
        freed();
        freeRefused();
    }

    private static void theNewObject() {
        Due.says(1, "`NONE = -1`: None.");
        Due.is("NONE", SquareMesh.NONE, -1);
        Due.says(1, "The four POINTS, two TRIANGLES; THE IMAGE is this.");
        SquareMesh m = new SquareMesh();
        Due.is("is(0)", m.is(0), 4);
        Due.is("is(1)", m.is(1), 2);
        Due.is("triangle(0, 1, 2)", m.triangle(0, 1, 2), 0);
        Due.is("triangle(0, 2, 3)", m.triangle(0, 2, 3), 1);
        Due.is("fresh()", m.fresh(), 0);
        Due.is("back()", m.back(), 4);
        m.point(5, 7);
        m.hole(0, 0);
        m.height(0, 3);
        m.tell(9);
        Due.is("fresh() then", m.fresh(), m.is(1));
        Due.is("back() then", m.back(), 4);
        Due.same("all is new", Meshes.state(m), Meshes.state(new SquareMesh()));
        Due.says(1, "FIXED EDGES: twos of POINTS; at first 0 and 1, 1 and 2, 2 and 3, 3 and 0");
        SquareMesh other = new SquareMesh();
        for (int a = 0; a < 4; a++) {
            for (int b = 0; b < 4; b++) {
                Due.is("isFixed(" + a + ", " + b + ")", other.isFixed(a, b), a + b != 2 && a + b != 4 && a != b);
            }
        }
        Due.is("is(3)", other.is(3), 4);
        Due.is("is(4)", other.is(4), 4);
    }

    private static void calls512() {
        Due.says(1, "An object is used for at most 512 calls after it has been made; what later calls answer is free.");
        SquareMesh m = new SquareMesh();
        for (int k = 0; k < 255; k++) {
            m.point(k, 1);
            m.drop(4);
        }
        Due.is("the 511th call", m.point(0, 0), 4);
        Due.is("the 512th call", m.is(1), 4);
        m.drawn(20, 1000);
        Due.is("a later one ends", m.is(1) >= -1, true);
    }

    private static void placesInTheSquare() {
        Due.says(2, "each at a place X, Y (-1000 .. 1000, whole numbers)");
        SquareMesh m = new SquareMesh();
        int[] xs = {-1000, 1000, 7, 8, -999, 999};
        int[] ys = {5, 6, -1000, 1000, -999, 999};
        for (int k = 0; k < xs.length; k++) {
            Due.is("point(" + xs[k] + ", " + ys[k] + ")", m.point(xs[k], ys[k]), 4 + k);
            Due.is("its X", m.of(4 + k, 0), xs[k]);
            Due.is("its Y", m.of(4 + k, 1), ys[k]);
        }
    }

    private static void noTwoAtOne() {
        Due.says(2, "no two at one");
        SquareMesh m = Meshes.four();
        for (int p = 0; p < 8; p++) {
            Due.is("point at the place of " + p, m.point(m.of(p, 0), m.of(p, 1)), -1);
            Due.is("a POINT moved to the place of " + p, m.move(5, m.of(p, 0), m.of(p, 1)), false);
        }
        m.drop(5);
        Due.is("where there was one", m.point(-100, 100), 5);
        Due.says(2, "TOLD, a POINT at a place where none is");
        m.move(5, 3, 3);
        Due.is("where one was ahead of a move", m.point(-100, 100), 8);
        Due.is("where it went", m.point(3, 3), -1);
    }

    private static void numbers() {
        Due.says(2, "POINTS 0 .. 39");
        SquareMesh full = Meshes.full();
        Due.is("the last one's X", full.of(39, 0), 250);
        Due.is("no 40", full.of(40, 0), -100000);
        Due.is("is(0)", full.is(0), 40);
        Due.says(2, "its number is the least that is free (4 .. 39)");
        full.drop(39);
        Due.is("the last is free", full.point(1, 2), 39);
        full.drop(20);
        full.drop(4);
        full.drop(11);
        Due.is("4", full.point(1, 3), 4);
        Due.is("11", full.point(1, 4), 11);
        Due.is("20", full.point(1, 5), 20);
        Due.is("no more", full.point(1, 6), -1);
        Due.is("the first told", new SquareMesh().point(0, 0), 4);
        Due.says(2, "TOLD: its number.");
        SquareMesh m = new SquareMesh();
        for (int k = 4; k < 40; k++) {
            Due.is("number " + k, m.point(k, k * k % 23), k);
        }
    }

    private static void onFixedEdges() {
        Due.says(2, "does it lie on a FIXED EDGE (between its ends), that is two FIXED ones then, from either end to it");
        SquareMesh m = new SquareMesh();
        m.point(-300, -300);
        m.point(300, 0);
        m.fix(4, 5);
        Due.is("point(-298, -299)", m.point(-298, -299), 6);
        Due.is("isFixed(4, 6)", m.isFixed(4, 6), true);
        Due.is("isFixed(6, 5)", m.isFixed(6, 5), true);
        Due.is("isFixed(4, 5)", m.isFixed(4, 5), false);
        Due.is("isEdge(4, 5)", m.isEdge(4, 5), false);
        Due.is("is(3)", m.is(3), 6);
        Due.is("point(298, -1)", m.point(298, -1), 7);
        Due.is("isFixed(6, 7)", m.isFixed(6, 7), true);
        Due.is("isFixed(7, 5)", m.isFixed(7, 5), true);
        Due.is("isFixed(6, 5)", m.isFixed(6, 5), false);
        Due.is("three pieces", m.is(3), 7);
        Due.is("is(4)", m.is(4), 4);
        Due.is("one is freed alone", m.free(6, 7), true);
        Due.is("isFixed(4, 6) still", m.isFixed(4, 6), true);
        Due.is("isFixed(7, 5) still", m.isFixed(7, 5), true);
    }

    private static void notOnFixedEdges() {
        Due.says(2, "(between its ends)");
        SquareMesh m = new SquareMesh();
        m.point(-300, 0);
        m.point(300, 0);
        m.fix(4, 5);
        m.point(301, 0);
        m.point(-301, 0);
        Due.is("behind an end", m.isFixed(5, 6), false);
        Due.is("behind the other end", m.isFixed(4, 7), false);
        m.point(0, 1);
        m.point(0, -1);
        Due.is("beside it", m.isFixed(4, 5), true);
        Due.is("is(3)", m.is(3), 5);
        m.free(4, 5);
        m.point(0, 0);
        Due.is("on an EDGE that isn't FIXED", m.is(3), 4);
        SquareMesh least = new SquareMesh();
        least.point(0, 0);
        least.point(3, 1);
        least.fix(4, 5);
        least.point(2, 1);
        least.point(1, 0);
        Due.is("beside it by a DOUBLE AREA of 1, on both sides", least.isFixed(4, 5), true);
        Due.is("is(3) then", least.is(3), 5);
        SquareMesh near = new SquareMesh();
        near.point(-1000, 999);
        near.point(999, -1000);
        Due.is("next to the ends of BORDER ones", near.is(3), 6);
        near.point(-999, 999);
        Due.is("next to the BORDER", near.is(3), 6);
    }

    private static void onTheBorder() {
        Due.says(2, "(BORDER, if it was)");
        SquareMesh m = new SquareMesh();
        int[] xs = {0, 1000, 0, -1000};
        int[] ys = {-1000, 0, 1000, 0};
        for (int k = 0; k < 4; k++) {
            int p = m.point(xs[k], ys[k]);
            int next = (k + 1) % 4;
            Due.is("is(4) with " + p, m.is(4), 5 + k);
            Due.is("isFixed to one end", m.isFixed(k, p), true);
            Due.is("isFixed to the other end", m.isFixed(p, next), true);
            Due.is("freed to one end", m.free(k, p), false);
            Due.is("freed to the other end", m.free(p, next), false);
            Due.is("the whole is no more", m.isFixed(k, next), false);
            Due.is("dropped", m.drop(p), false);
        }
        Due.says(2, "(BORDER ones, with all that come of them)");
        m.point(-999, -1000);
        Due.is("a piece of a piece", m.is(4), 9);
        Due.is("freed", m.free(0, 8), false);
        Due.is("freed on", m.free(8, 4), false);
        SquareMesh inner = Meshes.middle();
        inner.fix(0, 4);
        inner.point(-500, -500);
        Due.is("a piece of an inner one", inner.is(4), 4);
        Due.is("that one freed", inner.free(0, 5), true);
    }

    private static void pointRefused() {
        Due.says(2, "NONE for others (a POINT there, out of the square), or if there are 40.");
        SquareMesh m = Meshes.four();
        m.fix(4, 6);
        String state = Meshes.state(m);
        for (int[] place : Meshes.OUT) {
            Due.is("point(" + place[0] + ", " + place[1] + ")", m.point(place[0], place[1]), -1);
        }
        for (int[] place : new int[][] {{100, 100}, {1000, 1000}, {-1000, 1000}}) {
            Due.is("point(" + place[0] + ", " + place[1] + ")", m.point(place[0], place[1]), -1);
        }
        Due.same("nothing is changed", Meshes.state(m), state);
        SquareMesh full = Meshes.full();
        int steps = full.steps();
        Due.is("a 41st point", full.point(0, 900), -1);
        Due.is("a 41st point on the BORDER", full.point(0, 1000), -1);
        Due.is("is(0)", full.is(0), 40);
        Due.is("is(3)", full.is(3), 4);
        Due.is("steps()", full.steps(), steps);
        full.drop(30);
        Due.is("a 40th one", full.point(0, 900), 30);
    }

    private static void alwaysThere() {
        Due.says(3, "0 .. 3 are there always: (-1000, -1000), (1000, -1000), (1000, 1000), (-1000, 1000).");
        SquareMesh m = Meshes.middle();
        m.fix(4, 0);
        m.drawn(5, 1000);
        m.smooth();
        int[] places = {-1000, -1000, 1000, -1000, 1000, 1000, -1000, 1000};
        for (int p = 0; p < 4; p++) {
            Due.is("drop(" + p + ")", m.drop(p), false);
            Due.is("move(" + p + ", 1, 1)", m.move(p, 1, 1), false);
            Due.is("wouldDrop(" + p + ")", m.wouldDrop(p), -1);
            Due.is("X of " + p, m.of(p, 0), places[2 * p]);
            Due.is("Y of " + p, m.of(p, 1), places[2 * p + 1]);
        }
    }

    private static void takenOut() {
        Due.says(3, "TAKEN OUT: a POINT that is there, at no FIXED EDGE.");
        SquareMesh m = Meshes.four();
        m.fix(4, 6);
        m.fix(4, 5);
        Due.is("at two FIXED EDGES", m.drop(4), false);
        m.free(4, 5);
        Due.is("at one", m.drop(4), false);
        m.free(6, 4);
        Due.is("at none", m.drop(4), true);
        Due.is("not there", m.drop(4), false);
        Due.is("the other end", m.drop(6), true);
        m.drop(5);
        m.drop(7);
        Due.same("a mesh as new", Meshes.shape(m), Meshes.shape(new SquareMesh()));
        Due.says(3, "TAKEN OUT: true.");
        SquareMesh full = Meshes.full();
        Due.is("the last of 40", full.drop(39), true);
        Due.is("is(0)", full.is(0), 39);
        Due.is("the first told", full.drop(4), true);
        Due.is("its X", full.of(4, 0), -100000);
    }

    private static void dropRefused() {
        Due.says(3, "False for others.");
        SquareMesh m = Meshes.four();
        m.point(1000, 3);
        m.fix(4, 5);
        String state = Meshes.state(m);
        for (int p : Meshes.noPoints(9)) {
            Due.is("drop(" + p + ")", m.drop(p), false);
        }
        for (int p : new int[] {0, 1, 2, 3, 4, 5, 8}) {
            Due.is("drop(" + p + ")", m.drop(p), false);
        }
        Due.same("nothing is changed", Meshes.state(m), state);
    }

    private static void moved() {
        Due.says(4, "TAKEN OUT, then TOLD with its number");
        SquareMesh m = Meshes.four();
        m.drop(4);
        Due.is("a lesser number is free", m.move(7, 0, 0), true);
        Due.is("it has its number", m.at(0, 0), 7);
        Due.is("not the lesser one", m.of(4, 0), -100000);
        SquareMesh full = Meshes.full();
        Due.is("no number is free", full.move(39, 999, 999), true);
        Due.is("its place", full.at(999, 999), 39);
        Due.is("is(0)", full.is(0), 40);
        Due.says(4, "MOVED: true.");
        Due.is("to a corner's side", full.move(38, -1000, 999), true);
        Due.is("by one", full.move(37, full.of(37, 0), full.of(37, 1) + 1), true);
        Due.is("far away", full.move(4, 800, 800), true);
        Due.says(4, "MOVED, it keeps it");
        m.height(5, -9999);
        m.move(5, 50, 50);
        Due.is("its HEIGHT", m.of(5, 5), -9999);
        m.smooth();
        Due.is("its HEIGHT, SMOOTHED", m.of(5, 5), -9999);
    }

    private static void movedOntoFixed() {
        Due.says(4, "then TOLD with its number");
        SquareMesh m = Meshes.four();
        m.fix(4, 6);
        m.move(5, 0, 0);
        Due.is("onto a FIXED EDGE: one half", m.isFixed(4, 5), true);
        Due.is("the other half", m.isFixed(5, 6), true);
        Due.is("not the whole", m.isFixed(4, 6), false);
        Due.says(4, "one that may be TAKEN OUT");
        Due.is("it may not be then", m.move(5, 10, 0), false);
        m.move(7, 1000, 500);
        Due.is("onto the BORDER", m.is(4), 5);
        Due.is("it may not be from there", m.move(7, 0, 500), false);
    }

    private static void ownPlace() {
        Due.says(4, "to a place where no POINT is (its own, too: that is no thing done)");
        SquareMesh m = Meshes.four();
        String state = Meshes.state(m);
        Due.is("move(4, 100, 100)", m.move(4, 100, 100), false);
        Due.is("to another's", m.move(4, 100, -100), false);
        Due.is("to one of the square's", m.move(4, 1000, -1000), false);
        Due.same("no thing is done", Meshes.state(m), state);
        m.drop(7);
        Due.is("where none is any more", m.move(4, 100, -100), true);
        Due.is("and back", m.move(4, 100, 100), true);
    }

    private static void moveRefused() {
        Due.says(4, "False, if it can't be, and for others.");
        SquareMesh m = Meshes.four();
        m.fix(5, 6);
        m.point(1000, 7);
        String state = Meshes.state(m);
        for (int p : Meshes.noPoints(9)) {
            Due.is("move(" + p + ", 1, 1)", m.move(p, 1, 1), false);
        }
        for (int p : new int[] {0, 1, 2, 3, 5, 6, 8}) {
            Due.is("move(" + p + ", 1, 1)", m.move(p, 1, 1), false);
        }
        for (int[] place : Meshes.OUT) {
            Due.is("move(4, " + place[0] + ", " + place[1] + ")", m.move(4, place[0], place[1]), false);
        }
        Due.same("nothing is changed", Meshes.state(m), state);
    }

    private static void fixedTwos() {
        Due.says(5, "two POINTS, not FIXED yet");
        SquareMesh m = Meshes.four();
        Due.is("fix(4, 6)", m.fix(4, 6), true);
        Due.is("fix(4, 6) again", m.fix(4, 6), false);
        Due.is("fix(6, 4)", m.fix(6, 4), false);
        Due.is("fix(1, 0)", m.fix(1, 0), false);
        Due.is("an EDGE that isn't FIXED", m.fix(4, 5), true);
        m.free(4, 6);
        Due.is("FREED, it isn't FIXED", m.fix(6, 4), true);
        Due.says(5, "FIXED: true.");
        SquareMesh plain = new SquareMesh();
        Due.is("of the square's", plain.fix(1, 3), true);
        Due.is("isEdge(1, 3)", plain.isEdge(1, 3), true);
        Due.is("isEdge(0, 2)", plain.isEdge(0, 2), false);
        SquareMesh full = Meshes.full();
        Due.is("the last POINT", full.fix(38, 39), true);
        Due.is("the last and the first", full.fix(39, 2), true);
    }

    private static void nothingBetween() {
        Due.says(5, "no other POINT between both on the straight line");
        SquareMesh m = new SquareMesh();
        m.point(-300, -200);
        m.point(0, 0);
        m.point(300, 200);
        Due.is("fix(4, 6)", m.fix(4, 6), false);
        Due.is("fix(6, 4)", m.fix(6, 4), false);
        m.move(5, 1, 0);
        Due.is("beside the line", m.fix(4, 6), true);
        SquareMesh near = new SquareMesh();
        near.point(0, 0);
        near.point(0, 1);
        near.point(0, 2);
        Due.is("one between, by 1 and 1", near.fix(4, 6), false);
        Due.is("up to it by 1", near.fix(4, 5), true);
        SquareMesh on = new SquareMesh();
        on.point(0, 0);
        on.point(0, 100);
        on.point(0, 101);
        Due.is("one behind the end", on.fix(4, 5), true);
        Due.is("one ahead of both", on.fix(5, 6), true);
        SquareMesh border = new SquareMesh();
        border.point(999, 1000);
        Due.is("on the BORDER", border.fix(2, 3), false);
        Due.is("over the middle", Meshes.middle().fix(0, 2), false);
        Due.is("over the middle, the other way", Meshes.middle().fix(3, 1), false);
    }

    private static void nothingCrosses() {
        Due.says(5, "no FIXED EDGE that crosses it (both between their ends)");
        SquareMesh m = Meshes.four();
        m.fix(5, 7);
        Due.is("fix(4, 6)", m.fix(4, 6), false);
        Due.is("fix(2, 6)", m.fix(2, 6), false);
        Due.is("at a common end", m.fix(5, 6), true);
        Due.is("at the other end", m.fix(7, 6), true);
        Due.is("on one side of it", m.fix(0, 5), true);
        m.free(5, 7);
        Due.is("an EDGE that isn't FIXED any more", m.fix(4, 6), true);
        Due.says(5, "each FIXED EDGE is an EDGE of some TRIANGLE");
        Due.is("isEdge(4, 6)", m.isEdge(4, 6), true);
        Due.is("isEdge(5, 7)", m.isEdge(5, 7), false);
        SquareMesh wall = new SquareMesh();
        wall.point(0, 10);
        wall.point(0, -10);
        wall.fix(4, 5);
        wall.point(-20, 11);
        wall.point(20, 11);
        wall.point(20, 9);
        Due.is("past its end", wall.fix(6, 7), true);
        Due.is("over the end", wall.fix(6, 8), false);
        wall.move(8, 20, 8);
        Due.is("just over it", wall.fix(6, 8), false);
    }

    private static void fixRefused() {
        Due.says(5, "False, if it can't be, and for others.");
        SquareMesh m = Meshes.four();
        m.fix(5, 7);
        String state = Meshes.state(m);
        for (int p : Meshes.noPoints(8)) {
            Due.is("fix(4, " + p + ")", m.fix(4, p), false);
            Due.is("fix(" + p + ", 4)", m.fix(p, 4), false);
            Due.is("fix(" + p + ", " + p + ")", m.fix(p, p), false);
        }
        for (int p = 0; p < 8; p++) {
            Due.is("fix(" + p + ", " + p + ")", m.fix(p, p), false);
        }
        Due.is("can't be: crossed", m.fix(4, 6), false);
        Due.is("can't be: a POINT between", m.fix(0, 4), false);
        Due.same("nothing is changed", Meshes.state(m), state);
    }

    private static void freed() {
        Due.says(6, "FREED: a FIXED EDGE that is no BORDER one.");
        SquareMesh m = Meshes.four();
        m.fix(7, 5);
        Due.is("free(5, 7)", m.free(5, 7), true);
        Due.is("not FIXED", m.isFixed(5, 7), false);
        Due.is("the EDGE that was", m.isEdge(4, 6), true);
        for (int p = 0; p < 4; p++) {
            Due.is("free(" + p + ", " + (p + 1) % 4 + ")", m.free(p, (p + 1) % 4), false);
        }
        Due.says(6, "FREED: true.");
        m.fix(4, 6);
        Due.is("free(6, 4)", m.free(6, 4), true);
        Due.is("it stays an EDGE", m.isEdge(4, 6), true);
        SquareMesh next = new SquareMesh();
        next.point(1000, 0);
        next.point(0, 1000);
        next.fix(4, 5);
        Due.is("both ends on the BORDER", next.free(4, 5), true);
    }

    private static void freeRefused() {
        Due.says(6, "False for others.");
        SquareMesh m = Meshes.four();
        m.point(0, 1000);
        m.fix(5, 7);
        String state = Meshes.state(m);
        for (int p : Meshes.noPoints(9)) {
            Due.is("free(0, " + p + ")", m.free(0, p), false);
            Due.is("free(" + p + ", 7)", m.free(p, 7), false);
        }
        for (int p = 0; p < 9; p++) {
            Due.is("free(" + p + ", " + p + ")", m.free(p, p), false);
        }
        Due.is("an EDGE that isn't FIXED", m.free(4, 5), false);
        Due.is("no EDGE", m.free(4, 6), false);
        Due.is("a BORDER one that came", m.free(3, 8), false);
        Due.is("the other one", m.free(8, 2), false);
        Due.is("what it came of", m.free(3, 2), false);
        Due.same("nothing is changed", Meshes.state(m), state);
    }
}
