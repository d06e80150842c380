/** What the document says of steps that are taken back, and of the image (promises 14, 46, 59 to 61). */
final class StepSentences {
    private StepSentences() {
    }

    static void all() {
        everyKind();
        noSteps();
        theLatest20();
        noneToTakeBack();
        howMany();
        wholeStates();
        fewerTriangles();
        imageOfAll();
        imageStays();
        backInto20();
        fresh();
    }

    /** Point 4 that may be taken out, 5 and 6 joined by a fixed edge, 7; a hole, heights, G 1234. */
    private static SquareMesh start() {
        SquareMesh m = Meshes.four();
        m.fix(5, 6);
        m.height(7, -50);
        m.hole(30, 40);
        m.tell(1234);
        return m;
    }

    private static boolean step(SquareMesh m, int kind) {
        switch (kind) {
            case 0: return m.point(7, 8) == 8;
            case 1: return m.drop(4);
            case 2: return m.move(7, 900, 900);
            case 3: return m.fix(4, 0) || m.fix(4, 7);
            case 4: return m.free(6, 5);
            case 5: return m.drawn(3, 500) == 3;
            case 6: return m.height(4, 9999);
            case 7: return m.refine(4) == 4;
            case 8: return m.smooth() > 0;
            case 9: return m.hole(-300, 300) == 2;
            default: return m.fill() == 0;
        }
    }

    private static void everyKind() {
        String[] kinds = {"POINTS TOLD", "TAKEN OUT", "MOVED", "EDGES FIXED", "FREED", "DRAWN", "HEIGHTS told", "REFINED",
            "SMOOTHED", "HOLES told", "filled"};
        for (int kind = 0; kind < kinds.length; kind++) {
            Due.says(14, kinds[kind]);
            SquareMesh m = start();
            String ahead = Meshes.state(m);
            int steps = m.steps();
            Due.is("it is done", step(m, kind), true);
            Due.is("it is one STEP", m.steps(), steps + 1);
            Due.is("a shape of its own", Meshes.state(m).equals(ahead), false);
            m.tell(4321);
            Due.is("undo()", m.undo(), steps);
            Due.same("all is as ahead of it", Meshes.state(m), ahead);
        }
        Due.says(14, "(all is as ahead of it, G, too)");
        SquareMesh m = start();
        m.point(0, 0);
        m.tell(30046);
        m.point(1, 0);
        m.tell(0);
        m.undo();
        Due.is("G ahead of the second", m.is(6), 30046);
        m.undo();
        Due.is("G ahead of the first", m.is(6), 1234);
    }

    private static void noSteps() {
        Due.says(14, "STEPS that are taken back: POINTS TOLD, TAKEN OUT, MOVED, EDGES FIXED, FREED, DRAWN, HEIGHTS told, "
            + "REFINED, SMOOTHED, HOLES told, filled");
        SquareMesh m = start();
        int steps = m.steps();
        m.tell(5);
        m.image();
        m.wouldPoint(0, 0);
        m.wouldDrop(4);
        m.wouldFix(4, 7);
        m.wouldFree(5, 6);
        Due.is("none by other calls", m.steps(), steps);
        m.point(100, 100);
        m.drop(5);
        m.move(4, 100, 100);
        m.fix(5, 6);
        m.free(4, 7);
        m.drawn(0, 0);
        m.height(4, 10000);
        m.refine(0);
        m.hole(0, 1001);
        Due.is("none by refused ones", m.steps(), steps);
        m.fill();
        m.fill();
        Due.is("one by the HOLE that was", m.steps(), steps + 1);
    }

    private static void theLatest20() {
        Due.says(14, "the latest 20, the latest first");
        SquareMesh m = new SquareMesh();
        for (int k = 0; k < 20; k++) {
            m.height(0, k + 1);
        }
        Due.is("20 can be", m.steps(), 20);
        m.height(0, 21);
        Due.is("no 21st", m.steps(), 20);
        for (int k = 19; k >= 0; k--) {
            Due.is("undo()", m.undo(), k);
            Due.is("the latest first", m.of(0, 5), k + 1);
        }
        Due.is("the first of 21 stays", m.undo(), -1);
        Due.is("it", m.of(0, 5), 1);
        Due.says(61, "STEPS that can be taken back.");
        SquareMesh many = new SquareMesh();
        for (int k = 0; k < 30; k++) {
            Due.is("steps()", many.steps(), Math.min(k, 20));
            many.point(k, k);
        }
        many.undo();
        Due.is("steps() then", many.steps(), 19);
        many.point(-1, 0);
        many.point(-2, 0);
        Due.is("on behind undo", many.steps(), 20);
        many.undo();
        Due.is("the latest", many.at(-2, 0), -1);
        Due.is("not the one ahead of it", many.at(-1, 0) != -1, true);
    }

    private static void noneToTakeBack() {
        Due.says(14, "NONE: there is none.");
        SquareMesh m = new SquareMesh();
        m.tell(7);
        Due.is("undo() of a new one", m.undo(), -1);
        Due.is("G stays", m.is(6), 7);
        m.point(0, 0);
        Due.is("undo()", m.undo(), 0);
        String state = Meshes.state(m);
        Due.is("undo() once more", m.undo(), -1);
        Due.same("nothing is changed", Meshes.state(m), state);
        Due.is("steps()", m.steps(), 0);
    }

    private static void howMany() {
        Due.says(14, "The latest STEP is taken back: how many can be yet.");
        SquareMesh m = Meshes.four();
        Due.is("undo()", m.undo(), 3);
        Due.is("undo() then", m.undo(), 2);
        m.point(5, 5);
        Due.is("behind a new one", m.undo(), 2);
        Due.is("undo() of the second", m.undo(), 1);
        Due.is("undo() of the first", m.undo(), 0);
        Due.same("as new", Meshes.state(m), Meshes.state(new SquareMesh()));
    }

    // The last point, the eighth hole and the last steps' numbers lie at the ends of what is kept.
    private static void wholeStates() {
        Due.says(14, "all is as ahead of it");
        SquareMesh m = Meshes.full();
        m.height(39, -7);
        m.fix(39, 2);
        for (int k = 0; k < 8; k++) {
            m.hole(k, 990);
        }
        int region = m.region(m.in(7, 990));
        m.point(0, 0);
        m.fill();
        m.free(2, 39);
        m.drop(39);
        Due.is("undo() of TAKEN OUT", m.undo(), 19);
        m.undo();
        m.undo();
        Due.is("the last POINT's X", m.of(39, 0), 250);
        Due.is("the last POINT's Y", m.of(39, 1), 250);
        Due.is("its HEIGHT", m.of(39, 5), -7);
        Due.is("its FIXED EDGE", m.isFixed(2, 39), true);
        Due.is("all HOLES", m.is(8), 8);
        Due.is("all at their places", m.ofRegion(region, 3), 8);
        Due.is("all TRIANGLES", m.is(1), 74);
        Due.is("the last TRIANGLE", m.corner(73, 2) != -1, true);
    }

    // Fewer triangles than there were once: none of those may come again.
    private static void fewerTriangles() {
        Due.says(14, "(all is as ahead of it");
        SquareMesh m = Meshes.full();
        for (int p = 39; p >= 10; p--) {
            m.drop(p);
        }
        String few = Meshes.shape(m);
        m.point(900, 900);
        m.undo();
        Due.same("undo()", Meshes.shape(m), few);
        Due.says(60, "BACK: all is so again.");
        m.image();
        m.point(-900, 900);
        m.back();
        Due.same("back()", Meshes.shape(m), few);
        WholeMesh w = new WholeMesh(m);
        Due.is("the square", w.doubleArea(), 8000000);
        Due.is("circles that aren't empty", w.unruly(), 0);
        Due.is("what a POINT more would change", m.wouldPoint(900, -900) > 0, true);
        Due.is("what one less would change", m.wouldDrop(9) > 0, true);
    }

    private static void imageOfAll() {
        Due.says(59, "THE IMAGE is as all is now: POINTS.");
        Due.is("of a new one", new SquareMesh().image(), 4);
        Due.is("of the full one", Meshes.full().image(), 40);
        SquareMesh m = start();
        Due.is("image()", m.image(), 8);
        Due.says(59, "AN IMAGE: all as it is.");
        String state = Meshes.state(m);
        Due.is("undo() behind it", m.undo(), m.steps());
        m.tell(1);
        m.free(5, 6);
        m.drawn(4, 1000);
        m.height(7, 50);
        m.hole(0, 1000);
        m.smooth();
        Due.says(60, "BACK: all is so again.");
        Due.is("back()", m.back(), 8);
        Due.same("all", Meshes.state(m), state);
        Due.is("the STEP ahead of it", m.undo(), 6);
        Due.is("it is taken back", m.is(8), 0);
    }

    private static void imageStays() {
        Due.says(60, "BACK to THE IMAGE (it stays): POINTS.");
        SquareMesh m = Meshes.four();
        Due.is("to the one of the new object", m.back(), 4);
        Due.is("no STEPS", m.steps(), 0);
        m.point(1, 1);
        m.image();
        m.point(2, 2);
        Due.is("back()", m.back(), 5);
        m.drop(4);
        Due.is("back() again", m.back(), 5);
        Due.is("back() at once again", m.back(), 5);
        m.undo();
        Due.is("one STEP taken back", m.is(0), 4);
        Due.is("it stays then, too", m.back(), 5);
        m.point(3, 3);
        m.image();
        m.drop(5);
        Due.is("the latest one", m.back(), 6);
        Due.is("of all that is there", m.at(3, 3), 5);
    }

    private static void backInto20() {
        Due.says(60, "all is so again");
        SquareMesh m = new SquareMesh();
        for (int k = 0; k < 23; k++) {
            m.tell(k);
            m.point(k, 2 * k);
        }
        m.image();
        for (int k = 0; k < 22; k++) {
            m.drop(4 + k);
            m.hole(k, k);
        }
        m.tell(99);
        Due.is("back()", m.back(), 27);
        Due.is("G", m.is(6), 22);
        Due.is("HOLES", m.is(8), 0);
        for (int k = 19; k >= 0; k--) {
            Due.is("a STEP of then", m.undo(), k);
            Due.is("the POINTS of then", m.is(0), 7 + k);
            Due.is("the G of then", m.is(6), 3 + k);
        }
        Due.is("no more", m.undo(), -1);
        Due.is("back() once more", m.back(), 27);
        Due.is("20 STEPS once more", m.steps(), 20);
    }

    private static void fresh() {
        Due.says(46, "How many TRIANGLES there are now that THE IMAGE had not.");
        SquareMesh m = new SquareMesh();
        Due.is("of a new object", m.fresh(), 0);
        m.fix(1, 3);
        Due.is("all", m.fresh(), 2);
        m.undo();
        Due.is("taken back", m.fresh(), 0);
        m.point(0, -1000);
        Due.is("fewer in THE IMAGE", m.fresh(), 3);
        m.image();
        Due.is("a new IMAGE", m.fresh(), 0);
        m.undo();
        Due.is("more in THE IMAGE", m.fresh(), 2);
        m.back();
        Due.is("back", m.fresh(), 0);
        SquareMesh moved = Meshes.middle();
        moved.image();
        moved.move(4, 1, 0);
        Due.is("told by the same corners", moved.fresh(), 0);
        SquareMesh full = Meshes.full();
        full.image();
        Due.is("of all 74", full.fresh(), 0);
        full.drop(39);
        full.point(250, 250);
        Due.is("as it was", full.fresh(), 0);
    }
}
