/** For each promise of the document: ordinary inputs, the edges that it names, and wrong inputs. */
public final class PromisesTest {
    private static final int MIN = Integer.MIN_VALUE;
    private static final int MAX = Integer.MAX_VALUE;

    private PromisesTest() {
    }

    public static void main(String[] args) {
        changes();
        changesOfMany();
        stepsAndImage();
        counts();
        places();
        stars();
        regions();
        measures();
        waysAlongEdges();
        heights();
        passages();
        whatWouldBe();
        Due.end("PromisesTest");
    }

    private static void changes() {
        promise1();
        promise2();
        promise3();
        promise4();
        promise5();
        promise6();
        promise8();
    }

    private static void changesOfMany() {
        promise7();
        promise9();
        promise10();
        promise11And12();
        promise13();
    }

    private static void stepsAndImage() {
        promise14And61();
        promise46();
        promise59And60();
    }

    private static void promise1() {
        SquareMesh m = new SquareMesh();
        Due.is("1 NONE", SquareMesh.NONE, -1);
        Due.is("1 points", m.is(0), 4);
        Due.is("1 triangles", m.is(1), 2);
        int[] places = {-1000, -1000, 1000, -1000, 1000, 1000, -1000, 1000};
        for (int p = 0; p < 4; p++) {
            Due.is("1 x of " + p, m.of(p, 0), places[2 * p]);
            Due.is("1 y of " + p, m.of(p, 1), places[2 * p + 1]);
            Due.is("1 fixed " + p, m.isFixed(p, (p + 1) % 4), true);
        }
        Due.is("1 first", m.triangle(0, 1, 2), 0);
        Due.is("1 second", m.triangle(0, 2, 3), 1);
        Due.is("1 steps", m.steps(), 0);
        m.point(0, 0);
        m.tell(5);
        Due.is("1 image", m.fresh(), 4);
        Due.is("1 back", m.back(), 4);
        Due.is("1 back's triangles", m.is(1), 2);
        Due.is("1 back's G", m.is(6), 313);
    }

    private static void promise2() {
        SquareMesh m = new SquareMesh();
        Due.is("2 point", m.point(0, 0), 4);
        Due.is("2 one there", m.point(0, 0), -1);
        Due.is("2 one of the square", m.point(1000, -1000), -1);
        Due.is("2 out", m.point(1001, 0), -1);
        Due.is("2 out below", m.point(0, -1001), -1);
        Due.is("2 far out", m.point(MIN, MAX), -1);
        Due.is("2 no steps by others", m.steps(), 1);
        Due.is("2 on the border", m.point(0, -1000), 5);
        Due.is("2 split 0", m.isFixed(0, 5), true);
        Due.is("2 split 1", m.isFixed(5, 1), true);
        Due.is("2 split no more", m.isFixed(0, 1), false);
        Due.is("2 border ones", m.is(4), 5);
        m.fix(4, 2);
        Due.is("2 on a fixed one", m.point(500, 500), 6);
        Due.is("2 fixed 4 6", m.isFixed(4, 6), true);
        Due.is("2 fixed 6 2", m.isFixed(6, 2), true);
        Due.is("2 fixed 4 2", m.isFixed(4, 2), false);
        m.point(-500, 0);
        m.point(-500, 200);
        m.height(7, 99);
        m.drop(7);
        Due.is("2 least number", m.point(7, 7), 7);
        Due.is("2 height as told", m.of(7, 5), 0);
        for (int k = 9; k < 40; k++) {
            Due.is("2 number " + k, m.point(-900 + k, 900), k);
        }
        Due.is("2 none is free", m.point(3, 3), -1);
        Due.is("2 all", m.is(0), 40);
        ties();
    }

    // Points on one circle: all edges go to the one that is ahead.
    private static void ties() {
        SquareMesh m = new SquareMesh();
        int[] xs = {50, 30, 0, -30, -50, -30, 0, 30, 40, -40};
        int[] ys = {0, 40, 50, 40, 0, -40, -50, -40, 30, 30};
        for (int k = 0; k < xs.length; k++) {
            m.point(xs[k], ys[k]);
        }
        for (int p = 4; p < 14; p++) {
            if (p != 8) {
                Due.is("2 edge to the one ahead from " + p, m.isEdge(8, p), true);
            }
        }
        SquareMesh likeX = new SquareMesh();
        likeX.point(0, 100);
        likeX.point(100, 0);
        likeX.point(100, 100);
        likeX.point(0, 0);
        Due.is("2 of like X the lesser Y", likeX.isEdge(7, 6), true);
        Due.is("2 not the other", likeX.isEdge(4, 5), false);
    }

    private static void promise3() {
        SquareMesh m = Meshes.four();
        Due.is("3 drop", m.drop(5), true);
        Due.is("3 gone", m.of(5, 0), -100000);
        Due.is("3 at", m.at(-100, 100), -1);
        Due.is("3 points", m.is(0), 7);
        Due.is("3 triangles", m.is(1), 8);
        Due.is("3 again", m.drop(5), false);
        Due.is("3 of the square", m.drop(0), false);
        Due.is("3 below", m.drop(-1), false);
        Due.is("3 above", m.drop(40), false);
        Due.is("3 far above", m.drop(MAX), false);
        m.fix(4, 6);
        Due.is("3 at a fixed edge", m.drop(4), false);
        m.free(4, 6);
        Due.is("3 freed", m.drop(4), true);
        int onBorder = m.point(1000, 0);
        Due.is("3 on the border", m.drop(onBorder), false);
    }

    private static void promise4() {
        SquareMesh m = Meshes.four();
        m.height(4, 77);
        int steps = m.steps();
        Due.is("4 move", m.move(4, 200, 300), true);
        Due.is("4 x", m.of(4, 0), 200);
        Due.is("4 y", m.of(4, 1), 300);
        Due.is("4 height kept", m.of(4, 5), 77);
        Due.is("4 one step", m.steps(), steps + 1);
        Due.is("4 its own place", m.move(4, 200, 300), false);
        Due.is("4 no step", m.steps(), steps + 1);
        Due.is("4 a point there", m.move(4, -100, -100), false);
        Due.is("4 out", m.move(4, 0, 1001), false);
        Due.is("4 none there", m.move(9, 0, 0), false);
        Due.is("4 of the square", m.move(2, 0, 0), false);
        Due.is("4 below", m.move(-1, 0, 0), false);
        Due.is("4 to the border", m.move(4, 1000, 0), true);
        Due.is("4 fixed 1", m.isFixed(1, 4), true);
        Due.is("4 fixed 2", m.isFixed(4, 2), true);
        Due.is("4 not from there", m.move(4, 0, 0), false);
        m.fix(5, 6);
        Due.is("4 at a fixed edge", m.move(5, 0, 0), false);
        Due.is("4 onto a fixed edge", m.move(7, -100, 0), true);
        Due.is("4 fixed 5", m.isFixed(5, 7), true);
        Due.is("4 fixed 6", m.isFixed(7, 6), true);
    }

    private static void promise5() {
        SquareMesh m = Meshes.four();
        Due.is("5 fix", m.fix(7, 5), true);
        Due.is("5 it is an edge", m.isEdge(5, 7), true);
        Due.is("5 not twice", m.fix(5, 7), false);
        Due.is("5 crosses", m.fix(4, 6), false);
        Due.is("5 like ones", m.fix(4, 4), false);
        Due.is("5 none there", m.fix(4, 8), false);
        Due.is("5 below", m.fix(-1, 4), false);
        Due.is("5 above", m.fix(4, 64), false);
        Due.is("5 a border one", m.fix(0, 1), false);
        Due.is("5 an edge already", m.fix(4, 5), true);
        SquareMesh line = new SquareMesh();
        line.point(0, 0);
        line.point(0, 100);
        line.point(0, 300);
        Due.is("5 a point between", line.fix(4, 6), false);
        Due.is("5 none between", line.fix(4, 5), true);
        Due.is("5 on in line", line.fix(5, 6), true);
        SquareMesh far = new SquareMesh();
        for (int k = 0; k < 10; k++) {
            far.point(-450 + 100 * k, k % 2 == 0 ? 30 : -30);
        }
        far.point(-950, 0);
        far.point(950, 0);
        Due.is("5 through many", far.fix(14, 15), true);
        Due.is("5 is an edge", far.isEdge(14, 15), true);
        Due.is("5 triangles as before", far.is(1), 26);
    }

    private static void promise6() {
        SquareMesh m = Meshes.four();
        m.fix(5, 7);
        Due.is("6 free", m.free(7, 5), true);
        Due.is("6 not fixed", m.isFixed(5, 7), false);
        Due.is("6 not an edge", m.isEdge(5, 7), false);
        Due.is("6 not twice", m.free(5, 7), false);
        Due.is("6 a border one", m.free(0, 1), false);
        Due.is("6 an edge alone", m.free(4, 5), false);
        Due.is("6 like ones", m.free(4, 4), false);
        Due.is("6 none there", m.free(4, 30), false);
        Due.is("6 below", m.free(-1, 0), false);
        Due.is("6 above", m.free(0, 64), false);
        m.point(0, 1000);
        Due.is("6 a border one that came", m.free(3, 8), false);
    }

    private static void promise7() {
        SquareMesh m = new SquareMesh();
        m.tell(0);
        // G: 641, 19949 (mod 21: 11, 20)
        Due.is("7 drawn", m.drawn(1, 10), 1);
        Due.is("7 x", m.of(4, 0), 1);
        Due.is("7 y", m.of(4, 1), 10);
        Due.is("7 G", m.is(6), 19949);
        m.tell(0);
        Due.is("7 a point there", m.drawn(1, 10), 0);
        Due.is("7 G goes on", m.is(6), 19949);
        Due.is("7 a step still", m.steps(), 2);
        Due.is("7 n 0", m.drawn(0, 10), -1);
        Due.is("7 n 21", m.drawn(21, 10), -1);
        Due.is("7 w 0", m.drawn(1, 0), -1);
        Due.is("7 w 1001", m.drawn(1, 1001), -1);
        Due.is("7 w far", m.drawn(1, MAX), -1);
        Due.is("7 no steps by others", m.steps(), 2);
        Due.is("7 w 1000", m.drawn(20, 1000), 20);
        Due.is("7 one step", m.steps(), 3);
        m.drawn(20, 1000);
        Due.is("7 none free", m.is(0), 40);
        m.tell(0);
        Due.is("7 nothing comes", m.drawn(20, 1000), 0);
        int g = 0;
        for (int k = 0; k < 40; k++) {
            g = (g * 827 + 641) % 30047;
        }
        Due.is("7 G goes on then, too", m.is(6), g);
        SquareMesh small = new SquareMesh();
        small.drawn(20, 1);
        Due.is("7 at most nine places", small.is(0) <= 13, true);
    }

    private static void promise8() {
        SquareMesh m = new SquareMesh();
        Due.is("8 height", m.height(0, 9999), true);
        Due.is("8 told", m.of(0, 5), 9999);
        Due.is("8 low", m.height(1, -9999), true);
        Due.is("8 low told", m.of(1, 5), -9999);
        Due.is("8 too high", m.height(0, 10000), false);
        Due.is("8 too low", m.height(0, -10000), false);
        Due.is("8 none there", m.height(4, 0), false);
        Due.is("8 below", m.height(-1, 0), false);
        Due.is("8 above", m.height(64, 0), false);
        Due.is("8 steps", m.steps(), 2);
    }

    private static void promise9() {
        SquareMesh m = new SquareMesh();
        // both triangles are alike: the longest edge of the first one is 2 and 0
        Due.is("9 refine", m.refine(1), 1);
        Due.is("9 the middle", m.at(0, 0), 4);
        // four alike ones: (0, 1, 4) has 0 and 1 as its longest edge
        Due.is("9 twice more", m.refine(2), 2);
        Due.is("9 first", m.at(0, -1000), 5);
        Due.is("9 one step a call", m.steps(), 2);
        Due.is("9 border ones", m.is(4) > 4, true);
        Due.is("9 n 0", m.refine(0), -1);
        Due.is("9 n 11", m.refine(11), -1);
        Due.is("9 n far", m.refine(MIN), -1);
        // the thinnest one is (4, 6, 5): the middle of 4 and 5 downward is the place of 6
        SquareMesh there = new SquareMesh();
        there.point(0, 0);
        there.point(101, 1);
        there.point(50, 0);
        there.fix(4, 5);
        Due.is("9 a point there", there.refine(3), 0);
        Due.is("9 a step still", there.steps(), 5);
        SquareMesh down = new SquareMesh();
        down.point(0, 0);
        down.point(-101, -1);
        down.point(-50, 0);
        down.fix(4, 5);
        Due.is("9 below 0", down.refine(1), 1);
        Due.is("9 downward", down.at(-51, -1), 7);
        // the thinnest one is (4, 5, 6), as long from 5 to 6 as from 6 to 4
        SquareMesh alike = new SquareMesh();
        alike.point(-10, -1000);
        alike.point(10, -1000);
        alike.point(0, 0);
        alike.refine(1);
        Due.is("9 of like ones from the first corner on", alike.at(5, -500), 7);
        Due.is("9 ten", new SquareMesh().refine(10), 10);
        SquareMesh full = new SquareMesh();
        full.drawn(20, 1000);
        full.drawn(20, 1000);
        Due.is("9 none free", full.refine(3), 0);
    }

    private static void promise10() {
        SquareMesh m = new SquareMesh();
        Due.is("10 none to be moved", m.smooth(), 0);
        m.point(10, 20);
        Due.is("10 smooth", m.smooth(), 1);
        Due.is("10 middle of the square", m.at(0, 0), 4);
        Due.is("10 it is there already", m.smooth(), 0);
        m.height(4, 8);
        m.move(4, 1, 1);
        m.smooth();
        Due.is("10 height kept", m.of(4, 5), 8);
        SquareMesh down = new SquareMesh();
        down.point(999, 1000);
        down.point(500, 500);
        // the star of 5: 0, 1, 2, 4, 3: X -1000 + 1000 + 1000 + 999 - 1000, Y -1000 - 1000 + 1000 + 1000 + 1000
        Due.is("10 five neighbours", down.of(5, 2), 5);
        Due.is("10 one moved", down.smooth(), 1);
        Due.is("10 x downward", down.of(5, 0), 199);
        Due.is("10 y", down.of(5, 1), 200);
        Due.is("10 not the one on the border", down.of(4, 0), 999);
        SquareMesh fixed = new SquareMesh();
        fixed.point(300, 300);
        fixed.fix(4, 2);
        Due.is("10 not at a fixed edge", fixed.smooth(), 0);
        SquareMesh below = new SquareMesh();
        below.point(-999, -1000);
        below.point(0, 0);
        below.smooth();
        // X -1000 - 999 + 1000 + 1000 - 1000 = -999 by 5, downward -200; Y -1000 by 5
        Due.is("10 downward below 0", below.of(5, 0), -200);
        Due.is("10 y below 0", below.of(5, 1), -200);
    }

    private static void promise11And12() {
        SquareMesh m = Meshes.halves();
        Due.is("12 none yet", m.fill(), -1);
        Due.is("11 hole", m.hole(500, 500), 1);
        Due.is("11 the same place", m.hole(500, 500), 2);
        Due.is("11 out", m.hole(0, 1001), -1);
        Due.is("11 far out", m.hole(MAX, 0), -1);
        Due.is("11 hollow ones", m.is(9), 1);
        Due.is("11 other", m.hole(-500, -500), 3);
        Due.is("11 hollow both", m.is(9), 2);
        Due.is("12 the latest", m.fill(), 2);
        Due.is("12 hollow one", m.is(9), 1);
        for (int k = 3; k <= 8; k++) {
            Due.is("11 more", m.hole(1, k), k);
        }
        Due.is("11 no ninth", m.hole(1, 1), -1);
        Due.is("11 eight", m.is(8), 8);
        Due.is("12 seven", m.fill(), 7);
    }

    private static void promise13() {
        SquareMesh m = new SquareMesh();
        Due.is("13 tell", m.tell(30046), true);
        Due.is("13 told", m.is(6), 30046);
        Due.is("13 above", m.tell(30047), false);
        Due.is("13 below", m.tell(-1), false);
        Due.is("13 stays", m.is(6), 30046);
        Due.is("13 least", m.tell(0), true);
        Due.is("13 no step", m.steps(), 0);
    }

    private static void promise14And61() {
        SquareMesh m = new SquareMesh();
        Due.is("14 none", m.undo(), -1);
        m.tell(7);
        m.drawn(2, 500);
        m.point(900, 900);
        m.point(-900, 900);
        m.fix(6, 7);
        m.height(6, 5);
        m.hole(0, 0);
        m.fill();
        m.free(6, 7);
        m.move(6, 800, 800);
        m.drop(6);
        m.refine(1);
        m.smooth();
        Due.is("61 all are steps", m.steps(), 12);
        m.tell(1);
        Due.is("14 smoothed", m.undo(), 11);
        Due.is("14 G as it was, too", m.is(6) != 1, true);
        Due.is("14 refined", m.undo(), 10);
        Due.is("14 dropped", m.undo(), 9);
        Due.is("14 there again", m.of(6, 0), 800);
        m.undo();
        Due.is("14 moved", m.of(6, 0), 900);
        Due.is("14 its height", m.of(6, 5), 5);
        m.undo();
        Due.is("14 fixed again", m.isFixed(6, 7), true);
        m.undo();
        Due.is("14 a hole again", m.is(8), 1);
        m.undo();
        Due.is("14 no hole", m.is(8), 0);
        m.undo();
        Due.is("14 no height", m.of(6, 5), 0);
        m.undo();
        Due.is("14 not fixed", m.isFixed(6, 7), false);
        m.undo();
        Due.is("14 not told", m.is(0), 7);
        m.undo();
        Due.is("14 back to drawn", m.undo(), 0);
        Due.is("14 G ahead", m.is(6), 7);
        Due.is("14 points", m.is(0), 4);
        Due.is("14 none more", m.undo(), -1);
        stepsOfHoles();
        stepsOfTheLast();
        stepsOfPlaces();
        for (int k = 0; k < 25; k++) {
            m.point(k, 0);
        }
        Due.is("61 twenty", m.steps(), 20);
        for (int k = 19; k >= 0; k--) {
            Due.is("14 how many yet", m.undo(), k);
        }
        Due.is("14 five are left", m.is(0), 9);
        Due.is("14 no more", m.undo(), -1);
    }

    private static void stepsOfHoles() {
        SquareMesh m = Meshes.halves();
        m.hole(500, 500);
        m.fill();
        m.hole(-500, -500);
        Due.is("14 a hole elsewhere", m.ofRegion(0, 3), 1);
        m.undo();
        m.undo();
        Due.is("14 the hole where it was", m.ofRegion(1, 3), 1);
        Due.is("14 no other hole", m.ofRegion(0, 3), 0);
    }

    // The last point, the last hole: all of both must come back.
    private static void stepsOfTheLast() {
        SquareMesh m = new SquareMesh();
        m.point(-1000, 500);
        m.point(1000, 500);
        m.fix(4, 5);
        for (int k = 6; k < 40; k++) {
            m.point(20 * k, -k);
        }
        m.height(39, 39);
        for (int k = 0; k < 7; k++) {
            m.hole(-1, -1);
        }
        m.hole(0, 900);
        int above = m.region(m.in(0, 900));
        Due.is("14 the last hole", m.ofRegion(above, 3), 1);
        m.drop(39);
        m.undo();
        Due.is("14 the last hole again", m.ofRegion(above, 3), 1);
        Due.is("14 the other holes again", m.ofRegion(1 - above, 3), 7);
        Due.is("14 the last point again", m.of(39, 0), 780);
        Due.is("14 the last point's Y again", m.of(39, 1), -39);
        Due.is("14 the last height again", m.of(39, 5), 39);
        Due.is("14 the wall again", m.isFixed(4, 5), true);
    }

    private static void stepsOfPlaces() {
        SquareMesh m = new SquareMesh();
        m.point(0, 0);
        m.move(4, 0, 900);
        Due.is("14 the circle goes wide", m.circle(0, 0, 800), 1);
        m.undo();
        Due.is("14 the circle as it was", m.circle(0, 0, 1), -1);
    }

    private static void promise46() {
        SquareMesh m = new SquareMesh();
        Due.is("46 none", m.fresh(), 0);
        m.point(0, 500);
        Due.is("46 by a point", m.fresh(), 4);
        m.image();
        Due.is("46 by the image", m.fresh(), 0);
        m.point(0, -1000);
        Due.is("46 by another", m.fresh(), 2);
        m.undo();
        Due.is("46 taken back", m.fresh(), 0);
    }

    private static void promise59And60() {
        SquareMesh m = Meshes.four();
        m.fix(4, 6);
        m.hole(500, 500);
        m.height(4, 9);
        m.tell(77);
        Due.is("59 image", m.image(), 8);
        Due.is("59 no step", m.steps(), 7);
        m.tell(78);
        m.drawn(3, 1000);
        m.free(4, 6);
        m.height(4, 8);
        m.fill();
        m.drop(5);
        Due.is("60 back", m.back(), 8);
        Due.is("60 points", m.is(0), 8);
        Due.is("60 fixed", m.isFixed(4, 6), true);
        Due.is("60 holes", m.is(8), 1);
        Due.is("60 height", m.of(4, 5), 9);
        Due.is("60 G", m.is(6), 77);
        Due.is("60 fresh", m.fresh(), 0);
        Due.is("60 steps as they were", m.steps(), 7);
        Due.is("60 the step ahead of the image", m.undo(), 6);
        Due.is("60 taken back", m.of(4, 5), 0);
        m.drop(7);
        Due.is("60 it stays", m.back(), 8);
        Due.is("60 all again", m.of(7, 0), 100);
        stepsOfTheImage();
    }

    private static void stepsOfTheImage() {
        SquareMesh m = new SquareMesh();
        for (int k = 0; k < 5; k++) {
            m.tell(100 + k);
            m.point(100 * k + 1, k);
        }
        m.image();
        for (int k = 0; k < 5; k++) {
            m.undo();
        }
        m.tell(7);
        m.drawn(20, 500);
        m.drawn(20, 500);
        Due.is("60 back to five", m.back(), 9);
        for (int k = 4; k >= 0; k--) {
            Due.is("60 steps of then", m.undo(), k);
            Due.is("60 points of then", m.is(0), 4 + k);
            Due.is("60 triangles of then", m.is(1), 2 + 2 * k);
            Due.is("60 G of then", m.is(6), 100 + k);
        }
        Due.is("60 no more steps", m.undo(), -1);
    }

    private static void counts() {
        SquareMesh m = Meshes.four();
        Due.is("15 points", m.is(0), 8);
        Due.is("15 triangles", m.is(1), 10);
        Due.is("15 edges", m.is(2), 17);
        m.fix(5, 7);
        m.fix(5, 3);
        m.fix(7, 1);
        Due.is("15 fixed", m.is(3), 7);
        Due.is("15 border", m.is(4), 4);
        Due.is("15 regions", m.is(5), 2);
        Due.is("15 G", m.is(6), 313);
        Due.is("15 bent", m.is(7), 1);
        m.hole(900, 900);
        Due.is("15 holes", m.is(8), 1);
        Due.is("15 hollow", m.is(9), 1);
        Due.is("15 right", new SquareMesh().is(11), 2);
        SquareMesh low = new SquareMesh();
        low.point(0, -999);
        Due.is("15 blunt", low.is(10), 1);
        Due.is("15 right none", low.is(11), 0);
        Due.is("15 colours", low.is(12), 3);
        Due.is("15 below", m.is(-1), -1);
        Due.is("15 above", m.is(13), -1);
        Due.is("15 far", m.is(MIN), -1);
        promise16();
        promise17();
        trianglesAndEdges();
    }

    private static void promise16() {
        SquareMesh m = Meshes.four();
        m.fix(4, 5);
        m.height(4, -3);
        Due.is("16 x", m.of(5, 0), -100);
        Due.is("16 y", m.of(5, 1), 100);
        // trapezoids by the square's sides lie on circles: 0 is ahead in two of them
        Due.is("16 edges", m.of(0, 2), 5);
        Due.is("16 edges of another", m.of(2, 2), 4);
        Due.is("16 fixed", m.of(4, 3), 1);
        Due.is("16 fixed of the square", m.of(0, 3), 2);
        Due.is("16 border", m.of(3, 4), 1);
        Due.is("16 not on the border", m.of(4, 4), 0);
        Due.is("16 height", m.of(4, 5), -3);
        int p = m.point(-1000, 7);
        Due.is("16 told on the border", m.of(p, 4), 1);
        for (int other : new int[] {-1, 9, 39, 40, 64, MIN, MAX}) {
            Due.is("16 x of none", m.of(other, 0), -100000);
            Due.is("16 y of none", m.of(other, 1), -100000);
            Due.is("16 height of none", m.of(other, 5), -100000);
            Due.is("16 edges of none", m.of(other, 2), -1);
            Due.is("16 fixed of none", m.of(other, 3), -1);
            Due.is("16 border of none", m.of(other, 4), -1);
            Due.is("16 nothing of none", m.of(other, 6), -1);
        }
        Due.is("16 above", m.of(4, 6), -1);
        Due.is("16 below", m.of(4, -1), -1);
    }

    private static void promise17() {
        SquareMesh m = Meshes.four();
        Due.is("17 at", m.at(-100, 100), 5);
        Due.is("17 of the square", m.at(-1000, 1000), 3);
        Due.is("17 none", m.at(0, 0), -1);
        Due.is("17 out", m.at(MAX, MIN), -1);
        m.drop(5);
        Due.is("17 gone", m.at(-100, 100), -1);
    }

    private static void trianglesAndEdges() {
        SquareMesh m = new SquareMesh();
        m.point(0, 500);
        // (0, 1, 4), (0, 4, 3), (1, 2, 4), (2, 3, 4)
        int[] corners = {0, 1, 4, 0, 4, 3, 1, 2, 4, 2, 3, 4};
        for (int k = 0; k < 12; k++) {
            Due.is("18 corner " + k, m.corner(k / 3, k % 3), corners[k]);
        }
        Due.is("18 no such triangle", m.corner(4, 0), -1);
        Due.is("18 below", m.corner(-1, 0), -1);
        Due.is("18 no such corner", m.corner(0, 3), -1);
        Due.is("18 no such corner below", m.corner(0, -1), -1);
        Due.is("19 the border", m.beyond(0, 0), -1);
        Due.is("19 beyond 1 and 4", m.beyond(0, 1), 2);
        Due.is("19 beyond 4 and 0", m.beyond(0, 2), 1);
        Due.is("19 beyond 3 and 4", m.beyond(3, 1), 1);
        Due.is("19 no such triangle", m.beyond(4, 0), -1);
        Due.is("19 below", m.beyond(MIN, 0), -1);
        Due.is("19 no such edge", m.beyond(0, 3), -1);
        Due.is("19 no such edge below", m.beyond(0, -1), -1);
        Due.is("20 area", m.area(0), 3000000);
        Due.is("20 other", m.area(3), 1000000);
        Due.is("20 none", m.area(4), -1);
        Due.is("20 below", m.area(-1), -1);
        Due.is("21 triangle", m.triangle(4, 0, 1), 0);
        Due.is("21 in any order", m.triangle(4, 1, 0), 0);
        Due.is("21 another", m.triangle(4, 3, 2), 3);
        Due.is("21 none", m.triangle(0, 1, 2), -1);
        Due.is("21 like ones", m.triangle(4, 4, 0), -1);
        Due.is("21 no such point", m.triangle(0, 1, 5), -1);
        Due.is("21 below", m.triangle(0, 1, -1), -1);
        Due.is("21 the outside", m.triangle(1, 0, -1), -1);
        Due.is("21 above", m.triangle(40, 0, 1), -1);
        Due.is("22 edge", m.isEdge(4, 0), true);
        Due.is("22 turned", m.isEdge(0, 4), true);
        Due.is("22 none", m.isEdge(0, 2), false);
        Due.is("22 like ones", m.isEdge(4, 4), false);
        Due.is("22 below", m.isEdge(-1, 0), false);
        Due.is("22 above", m.isEdge(0, 64), false);
        Due.is("23 fixed", m.isFixed(1, 0), true);
        Due.is("23 an edge alone", m.isFixed(4, 0), false);
        Due.is("23 like ones", m.isFixed(0, 0), false);
        Due.is("23 below", m.isFixed(-1, 0), false);
        Due.is("23 above", m.isFixed(0, 65), false);
    }

    private static void places() {
        SquareMesh m = new SquareMesh();
        m.point(0, 500);
        Due.is("24 inside", m.in(0, -500), 0);
        Due.is("24 another", m.in(0, 900), 3);
        Due.is("24 on an edge the first", m.in(500, -250), 0);
        Due.is("24 at a corner the first", m.in(0, 500), 0);
        Due.is("24 at a corner of the square", m.in(1000, 1000), 2);
        Due.is("24 out", m.in(0, 1001), -1);
        Due.is("24 far out", m.in(MIN, MIN), -1);
        Due.is("25 out", m.lies(-1001, 0), 0);
        Due.is("25 far out", m.lies(MAX, MAX), 0);
        Due.is("25 inside", m.lies(1, 1), 1);
        Due.is("25 on an edge", m.lies(500, -250), 2);
        Due.is("25 on the border", m.lies(-1000, 3), 2);
        Due.is("25 at a point", m.lies(0, 500), 3);
        // from (0, 1, 4) over 1 and 4 to (1, 2, 4), over 2 and 4 to (2, 3, 4)
        Due.is("26 ends", m.walk(0, 500, 900, 0), 3);
        Due.is("26 edges", m.walk(0, 500, 900, 1), 2);
        Due.is("26 there", m.walk(0, 500, 900, 2), 1);
        Due.is("26 no step", m.walk(3, 0, 900, 1), 0);
        Due.is("26 on its edge", m.walk(0, 500, -250, 0), 0);
        Due.is("26 of several edges the first", m.walk(3, 0, -900, 1), 2);
        Due.is("26 no such thing", m.walk(0, 0, 0, 3), -1);
        Due.is("26 below", m.walk(0, 0, 0, -1), -1);
        Due.is("26 no such triangle", m.walk(4, 0, 0, 0), -1);
        Due.is("26 triangle below", m.walk(-1, 0, 0, 0), -1);
        Due.is("26 out", m.walk(0, 1001, 0, 0), -1);
    }

    private static void stars() {
        SquareMesh m = Meshes.four();
        int[] star = {2, 3, 5, 6, 7, -1};
        for (int k = 0; k < 6; k++) {
            Due.is("27 star " + k, m.star(4, k), star[k]);
        }
        int[] round = {0, 1, 2, 4, 6, -1};
        for (int k = 0; k < 6; k++) {
            Due.is("27 from the least on " + k, m.star(7, k), round[k]);
        }
        int[] corner = {3, 4, 7, 1, -1};
        for (int k = 0; k < 5; k++) {
            Due.is("27 corner " + k, m.star(2, k), corner[k]);
        }
        Due.is("27 below", m.star(2, -1), -1);
        Due.is("27 no such point", m.star(8, 0), -1);
        Due.is("27 far", m.star(MIN, MAX), -1);
        SquareMesh side = new SquareMesh();
        side.point(0, -1000);
        int[] onSide = {1, 2, 3, 0, -1};
        for (int k = 0; k < 5; k++) {
            Due.is("27 on a side " + k, side.star(4, k), onSide[k]);
        }
        rings();
        lines();
    }

    private static void rings() {
        SquareMesh m = new SquareMesh();
        m.point(0, 500);
        Due.is("28 itself", m.ring(0, 0), 0b00001);
        Due.is("28 one away", m.ring(0, 1), 0b11010);
        Due.is("28 two away", m.ring(0, 2), 0b00100);
        Due.is("28 none so far", m.ring(0, 3), 0);
        Due.is("28 never so far", m.ring(0, MAX), 0);
        Due.is("28 below", m.ring(0, -1), 0);
        Due.is("28 no such point", m.ring(5, 0), 0);
        Due.is("28 point below", m.ring(-1, 0), 0);
        SquareMesh full = new SquareMesh();
        full.drawn(20, 1000);
        full.drawn(20, 1000);
        long all = 0;
        for (int k = 0; k < 40; k++) {
            all |= full.ring(39, k);
        }
        Due.is("28 all points", all, (1L << 40) - 1);
    }

    private static void lines() {
        SquareMesh m = Meshes.four();
        Due.is("29 none", m.crossed(4, 6), 0);
        Due.is("29 one", m.crossed(5, 7), 1);
        Due.is("29 turned", m.crossed(7, 5), 1);
        Due.is("29 an edge", m.crossed(0, 1), 0);
        Due.is("29 through points", m.crossed(0, 2), 0);
        Due.is("29 like ones", m.crossed(4, 4), -1);
        Due.is("29 no such point", m.crossed(4, 8), -1);
        Due.is("29 below", m.crossed(-1, 4), -1);
        Due.is("45 ends on edges", m.cut(0, 0, 0, 100), 0);
        Due.is("45 over two", m.cut(0, -50, 0, 150), 2);
        Due.is("45 along an edge", m.cut(-90, 100, 90, 100), 0);
        Due.is("45 no line", m.cut(3, 3, 3, 3), 0);
        Due.is("45 out", m.cut(0, 0, 0, 1001), -1);
        Due.is("45 from out", m.cut(MIN, 0, 0, 0), -1);
        m.fix(5, 7);
        Due.is("30 over a fixed one", m.sees(4, 6), false);
        Due.is("30 along it", m.sees(5, 7), true);
        Due.is("30 no point between", m.sees(0, 6), true);
        Due.is("30 a point between", m.sees(0, 4), false);
        Due.is("30 like ones", m.sees(4, 4), false);
        Due.is("30 no such point", m.sees(4, 8), false);
        Due.is("30 below", m.sees(-1, 4), false);
        Due.is("30 above", m.sees(4, 68), false);
        // 4 sees 1, 2, 3, 5, 7: 6 and 0 are behind the fixed edge
        Due.is("31 seen", m.seen(4), 0b10101110);
        Due.is("31 no such point", m.seen(8), 0);
        Due.is("31 below", m.seen(-1), 0);
    }

    private static void regions() {
        SquareMesh m = Meshes.halves();
        // (0, 1, 4), (0, 4, 3), (1, 2, 4), (2, 3, 4)
        Due.is("32 first", m.region(0), 0);
        Due.is("32 with it", m.region(1), 0);
        Due.is("32 other", m.region(2), 1);
        Due.is("32 other with it", m.region(3), 1);
        Due.is("32 none", m.region(4), -1);
        Due.is("32 below", m.region(-1), -1);
        Due.is("33 triangles", m.ofRegion(0, 0), 2);
        Due.is("33 area", m.ofRegion(1, 1), 4000000);
        Due.is("33 hollow", m.ofRegion(1, 2), 0);
        Due.is("33 points", m.ofRegion(1, 4), 4);
        Due.is("47 firm", m.firm(), 8000000);
        m.hole(500, 500);
        m.hole(400, 500);
        Due.is("33 hollow then", m.ofRegion(1, 2), 1);
        Due.is("33 the other not", m.ofRegion(0, 2), 0);
        Due.is("33 holes", m.ofRegion(1, 3), 2);
        Due.is("33 no holes", m.ofRegion(0, 3), 0);
        Due.is("47 firm then", m.firm(), 4000000);
        // on the fixed line the first triangle counts
        m.hole(500, -500);
        Due.is("33 hole on an edge", m.ofRegion(0, 3), 1);
        Due.is("47 none firm", m.firm(), 0);
        Due.is("33 no such region", m.ofRegion(2, 0), -1);
        Due.is("33 below", m.ofRegion(-1, 0), -1);
        Due.is("33 no such thing", m.ofRegion(0, 5), -1);
        Due.is("33 no such thing below", m.ofRegion(0, -1), -1);
        m.free(4, 1);
        Due.is("33 one region", m.ofRegion(0, 0), 4);
        Due.is("33 with all holes", m.ofRegion(0, 3), 3);
        Due.is("33 and all points", m.ofRegion(0, 4), 5);
    }

    private static void measures() {
        SquareMesh m = Meshes.four();
        Due.is("34 nearest", m.nearest(90, 60), 4);
        Due.is("34 of like ones", m.nearest(0, 0), 4);
        Due.is("34 far", m.nearest(-1000, 1000), 3);
        Due.is("34 out", m.nearest(-1001, 0), -1);
        Due.is("34 far out", m.nearest(MAX, MIN), -1);
        Due.is("35 shortest", m.length(0), 40000);
        Due.is("35 longest", m.length(1), 4000000);
        Due.is("35 others", m.length(2), -1);
        Due.is("35 below", m.length(-1), -1);
        SquareMesh one = new SquareMesh();
        one.point(0, 500);
        Due.is("36 most", one.busiest(0), 4);
        Due.is("36 fewest", one.busiest(1), 0);
        Due.is("36 others", one.busiest(2), -1);
        Due.is("36 below", one.busiest(-1), -1);
        // (2, 3, 4): 1000000 by 4000000; (0, 1, 4): 3000000 by 4000000; (0, 4, 3) 2000000 by 4000000
        Due.is("40 thinnest", one.thinnest(), 3);
        Due.is("40 of like ones", new SquareMesh().thinnest(), 0);
        circles();
        bents();
        mean();
    }

    private static void circles() {
        SquareMesh m = new SquareMesh();
        Due.is("41 inside", m.circle(1, 999, 999), 1);
        Due.is("41 on it", m.circle(1, 1000, -1000), 0);
        Due.is("41 no such triangle", m.circle(2, 0, 0), -2);
        Due.is("41 below", m.circle(-1, 0, 0), -2);
        Due.is("41 out", m.circle(0, 0, -1001), -2);
        m.point(0, 0);
        Due.is("41 outside", m.circle(0, 0, 1), -1);
        Due.is("41 on it, at a corner", m.circle(0, 0, 0), 0);
        Due.is("41 inside of it", m.circle(0, 0, -1), 1);
    }

    private static void bents() {
        SquareMesh m = Meshes.four();
        Due.is("39 none", m.bent(0), -1);
        m.fix(4, 5);
        Due.is("39 not one that is allowed", m.bent(0), -1);
        m.fix(5, 7);
        Due.is("39 by the one ahead", m.bent(0), 507);
        Due.is("39 no more", m.bent(1), -1);
        Due.is("39 below", m.bent(-1), -1);
        Due.is("39 far", m.bent(MAX), -1);
        // a long line through the thin quarters between 3, 5 and 2, 4
        SquareMesh two = new SquareMesh();
        two.point(-900, 0);
        two.point(900, 0);
        two.point(0, 50);
        two.point(0, -50);
        two.fix(4, 5);
        Due.is("39 by circles", two.bent(0), 405);
        two.point(-800, 900);
        two.point(800, 900);
        two.point(0, 930);
        two.point(0, 870);
        two.fix(8, 9);
        Due.is("39 the second", two.bent(1), 809);
        Due.is("39 two", two.is(7), 2);
    }

    private static void mean() {
        SquareMesh m = new SquareMesh();
        Due.is("58 whole", m.mean(), Double.doubleToLongBits(4800000.0));
        m.point(1, 0);
        long sum = 16000000L + 2 * (1001L * 1001 + 1000000) + 2 * (999L * 999 + 1000000);
        Due.is("58 broken", m.mean(), Double.doubleToLongBits(sum / 8.0));
        m.point(3, 500);
        m.point(-7, -500);
        long all = 0;
        for (int a = 0; a < 7; a++) {
            for (int b = a + 1; b < 7; b++) {
                if (m.isEdge(a, b)) {
                    long dx = m.of(a, 0) - m.of(b, 0);
                    long dy = m.of(a, 1) - m.of(b, 1);
                    all += dx * dx + dy * dy;
                }
            }
        }
        Due.is("58 rounded", m.mean(), Double.doubleToLongBits((double) all / (double) m.is(2)));
    }

    private static void waysAlongEdges() {
        SquareMesh m = Meshes.four();
        Due.is("37 how many", m.tree(-1, 0), 7);
        Due.is("37 how many, others", m.tree(-1, 1), -1);
        // 4 and 5, 4 and 7, 5 and 6 are alike; then the square's corners at 900 and 900
        int[] tree = {4, 5, 4, 7, 5, 6, 0, 6, 1, 7, 2, 4, 3, 5};
        for (int k = 0; k < 7; k++) {
            Due.is("37 lesser " + k, m.tree(k, 0), tree[2 * k]);
            Due.is("37 greater " + k, m.tree(k, 1), tree[2 * k + 1]);
            Due.is("37 square " + k, m.tree(k, 2), k < 3 ? 40000 : 1620000);
        }
        Due.is("37 no more", m.tree(7, 0), -1);
        Due.is("37 below", m.tree(-2, 0), -1);
        Due.is("37 no such thing", m.tree(0, 3), -1);
        Due.is("37 no such thing below", m.tree(0, -1), -1);
        promise38();
        promise42();
        promise43();
        promise44();
    }

    private static void promise38() {
        SquareMesh m = new SquareMesh();
        m.point(0, 500);
        Due.is("38 edges", m.way(0, 2, -1), 2);
        Due.is("38 first", m.way(0, 2, 0), 0);
        Due.is("38 by the least number", m.way(0, 2, 1), 1);
        Due.is("38 last", m.way(0, 2, 2), 2);
        Due.is("38 no more", m.way(0, 2, 3), -1);
        Due.is("38 never", m.way(0, 2, MAX), -1);
        Due.is("38 below", m.way(0, 2, -2), -1);
        Due.is("38 like ones", m.way(4, 4, -1), 0);
        Due.is("38 like ones first", m.way(4, 4, 0), 4);
        Due.is("38 like ones no more", m.way(4, 4, 1), -1);
        Due.is("38 no such point", m.way(0, 5, -1), -1);
        Due.is("38 point below", m.way(-1, 0, -1), -1);
    }

    private static void promise42() {
        SquareMesh m = new SquareMesh();
        m.point(0, 500);
        // 0 to 2: by 1: 4000; by 3: 4000; by 4: 1802 + 1118
        Due.is("42 together", m.shortest(0, 2, -1), 2920);
        Due.is("42 over 4", m.shortest(0, 2, 1), 4);
        Due.is("42 last", m.shortest(0, 2, 2), 2);
        Due.is("42 no more", m.shortest(0, 2, 3), -1);
        Due.is("42 never", m.shortest(0, 2, MAX), -1);
        Due.is("42 below", m.shortest(0, 2, -2), -1);
        Due.is("42 no such point", m.shortest(5, 0, -1), -1);
        Due.is("42 point above", m.shortest(0, 64, 0), -1);
        SquareMesh alike = Meshes.four();
        Due.is("42 downward", alike.shortest(4, 6, -1), 282);
        Due.is("42 alike", alike.shortest(5, 7, -1), 400);
        Due.is("42 of like ones the least", alike.shortest(5, 7, 1), 4);
        Due.is("42 and turned", alike.shortest(7, 5, 1), 4);
        // 1413 each, and 2 between: trapezoids on circles have 0 and 5 ahead
        SquareMesh low = new SquareMesh();
        low.point(0, 1);
        low.point(0, -1);
        Due.is("42 each downward", low.shortest(1, 3, -1), 2828);
        Due.is("42 over 5", low.shortest(1, 3, 1), 5);
        Due.is("42 over 4", low.shortest(1, 3, 2), 4);
    }

    private static void promise43() {
        SquareMesh m = new SquareMesh();
        m.point(0, 500);
        int[] colours = {0, 1, 0, 1, 2};
        for (int p = 0; p < 5; p++) {
            Due.is("43 colour of " + p, m.colour(p), colours[p]);
        }
        Due.is("43 how many", m.is(12), 3);
        Due.is("43 no such point", m.colour(5), -1);
        Due.is("43 below", m.colour(-1), -1);
        Due.is("43 above", m.colour(64), -1);
    }

    private static void promise44() {
        SquareMesh m = new SquareMesh();
        m.point(0, 500);
        Due.is("44 centre", m.centre(0), 4);
        Due.is("44 how far", m.centre(1), 1);
        Due.is("44 others", m.centre(2), -1);
        Due.is("44 below", m.centre(-1), -1);
        SquareMesh eight = Meshes.four();
        int[] least = {-1, 1000};
        for (int p = 0; p < 8; p++) {
            int far = 0;
            while (eight.ring(p, far + 1) != 0) {
                far++;
            }
            if (far < least[1]) {
                least[0] = p;
                least[1] = far;
            }
        }
        Due.is("44 by rings", eight.centre(0), least[0]);
        Due.is("44 by rings how far", eight.centre(1), least[1]);
    }

    private static void heights() {
        SquareMesh m = new SquareMesh();
        m.point(0, 0);
        m.height(4, 100);
        m.height(0, -100);
        m.height(1, -100);
        Due.is("48 at a point", m.heightAt(0, 0), 100);
        Due.is("48 half way", m.heightAt(0, -500), 0);
        Due.is("48 downward", m.heightAt(0, -501), -1);
        Due.is("48 up", m.heightAt(0, -499), 0);
        Due.is("48 level ground", m.heightAt(7, -1000), -100);
        Due.is("48 out", m.heightAt(0, -1001), -100000);
        Due.is("48 far out", m.heightAt(MAX, MAX), -100000);
        // above 0: 4 alone; 4 edges
        Due.is("49 level", m.level(0), 4);
        Due.is("49 as high as one", m.level(100), 0);
        Due.is("49 as low as two", m.level(-100), 4);
        Due.is("49 below", m.level(-101), 0);
        Due.is("49 far", m.level(MIN), 0);
        Due.is("50 ends", m.drain(4, 0), 0);
        Due.is("50 edges", m.drain(4, 1), 1);
        Due.is("50 to the lowest one", m.drain(2, 0), 1);
        Due.is("50 it lies low", m.drain(1, 0), 1);
        Due.is("50 no edge", m.drain(1, 1), 0);
        m.height(1, -101);
        Due.is("50 on", m.drain(3, 0), 1);
        Due.is("50 two edges", m.drain(3, 1), 2);
        Due.is("50 others", m.drain(0, 2), -1);
        Due.is("50 below", m.drain(0, -1), -1);
        Due.is("50 no such point", m.drain(5, 0), -1);
        Due.is("50 point below", m.drain(-1, 0), -1);
        // (0, 1, 4): -101; (0, 4, 3): 0; (1, 2, 4): -1; (2, 3, 4): 100; 2000000 each
        Due.is("51 volume", m.volume(), -2L * 2000000);
        for (int p = 0; p < 5; p++) {
            m.height(p, 9999);
        }
        Due.is("51 greatest", m.volume(), 8000000L * 3 * 9999);
    }

    private static void passages() {
        SquareMesh m = Meshes.halves();
        Due.is("52 none", m.passage(0, -500, 0, 500, -1), -1);
        Due.is("52 none, first", m.passage(0, -500, 0, 500, 0), -1);
        Due.is("52 with it", m.passage(0, -500, -500, 0, -1), 1);
        Due.is("52 first", m.passage(0, -500, -500, 0, 0), 0);
        Due.is("52 second", m.passage(0, -500, -500, 0, 1), 1);
        Due.is("52 no more", m.passage(0, -500, -500, 0, 2), -1);
        Due.is("52 never", m.passage(0, -500, -500, 0, MAX), -1);
        Due.is("52 below", m.passage(0, -500, -500, 0, -2), -1);
        Due.is("52 the same", m.passage(0, 500, 1, 500, -1), 0);
        Due.is("52 out", m.passage(0, 1001, 0, 0, -1), -1);
        Due.is("52 to out", m.passage(0, 0, MIN, 0, -1), -1);
        m.free(4, 1);
        m.free(4, 3);
        // from (0, 1, 4) to (2, 3, 4): over (0, 4, 3) or (1, 2, 4)
        Due.is("52 two", m.passage(0, -500, 0, 500, -1), 2);
        Due.is("52 by the least", m.passage(0, -500, 0, 500, 1), 1);
        m.hole(0, -500);
        Due.is("52 hollow or not", m.passage(0, -500, 0, 500, -1), 2);
        hulls();
    }

    private static void hulls() {
        SquareMesh m = new SquareMesh();
        Due.is("53 none", m.hull(-1), 0);
        Due.is("53 no first", m.hull(0), -1);
        m.point(10, 10);
        Due.is("53 one", m.hull(-1), 1);
        Due.is("53 it", m.hull(0), 4);
        m.point(0, 0);
        m.point(20, 20);
        m.point(15, 15);
        Due.is("53 on one line", m.hull(-1), 2);
        Due.is("53 first end", m.hull(0), 5);
        Due.is("53 last end", m.hull(1), 6);
        Due.is("53 no more", m.hull(2), -1);
        m.point(0, 20);
        m.point(0, 10);
        m.point(3, 5);
        // 5 (0, 0), 6 (20, 20), 8 (0, 20); 9 on a side, 10 inside
        int[] hull = {5, 6, 8};
        Due.is("53 three", m.hull(-1), 3);
        for (int k = 0; k < 3; k++) {
            Due.is("53 against the clock " + k, m.hull(k), hull[k]);
        }
        Due.is("53 below", m.hull(-2), -1);
        Due.is("53 far", m.hull(MAX), -1);
        m.point(0, -1000);
        Due.is("53 of like X the lesser Y", m.hull(0), 11);
    }

    private static void whatWouldBe() {
        SquareMesh m = new SquareMesh();
        Due.is("54 inside", m.wouldPoint(1, 0), 4);
        Due.is("54 on an edge", m.wouldPoint(0, 0), 4);
        Due.is("54 on the border", m.wouldPoint(0, -1000), 3);
        Due.is("54 one there", m.wouldPoint(-1000, -1000), -1);
        Due.is("54 out", m.wouldPoint(0, 1001), -1);
        Due.is("54 nothing changed", m.is(1), 2);
        Due.is("54 no step", m.steps(), 0);
        m = Meshes.four();
        Due.is("55 drop", m.wouldDrop(4), 3);
        Due.is("55 of the square", m.wouldDrop(0), -1);
        Due.is("55 none there", m.wouldDrop(8), -1);
        Due.is("55 below", m.wouldDrop(-1), -1);
        Due.is("56 fix", m.wouldFix(5, 7), 2);
        Due.is("56 an edge", m.wouldFix(4, 6), 0);
        Due.is("56 like ones", m.wouldFix(4, 4), -1);
        Due.is("56 a point between", m.wouldFix(0, 4), -1);
        Due.is("56 none there", m.wouldFix(4, 8), -1);
        Due.is("57 not fixed", m.wouldFree(4, 6), -1);
        m.fix(5, 7);
        Due.is("56 crosses", m.wouldFix(4, 6), -1);
        Due.is("56 already", m.wouldFix(5, 7), -1);
        Due.is("57 free", m.wouldFree(5, 7), 2);
        Due.is("57 a border one", m.wouldFree(0, 1), -1);
        Due.is("57 like ones", m.wouldFree(4, 4), -1);
        Due.is("57 below", m.wouldFree(-1, 4), -1);
        Due.is("55 at a fixed edge", m.wouldDrop(5), -1);
        Due.is("57 still fixed", m.isFixed(5, 7), true);
        Due.is("57 no step", m.steps(), 5);
        SquareMesh full = new SquareMesh();
        full.drawn(20, 1000);
        full.drawn(20, 1000);
        full.drawn(20, 1000);
        Due.is("54 none free", full.wouldPoint(-999, 1000), -1);
    }
}
