/** What the document says of stars, rings, lines from point to point and of who sees whom (promises 27 to 31). */
final class LineSentences {
    private static final int MIN = Meshes.MIN;
    private static final int MAX = Meshes.MAX;

    private LineSentences() {
    }

    static void all() {
        star();
        starOnTheBorder();
        starRefused();
        ring();
        ringRefused();
        crossed();
        crossedRefused();
        sees();
        seesOverEdges();
        seesRefused();
        seen();
    }

    private static void isStar(String name, SquareMesh m, int p, int... due) {
        for (int k = 0; k < due.length; k++) {
            Due.is(name + ": star(" + p + ", " + k + ")", m.star(p, k), due[k]);
        }
        Due.is(name + ": star(" + p + ", " + due.length + ")", m.star(p, due.length), -1);
    }

    private static void star() {
        Due.says(27, "its neighbours by EDGES, against the clock, from the least number on");
        SquareMesh m = Meshes.middle();
        isStar("all corners", m, 4, 0, 1, 2, 3);
        m.point(0, -500);
        isStar("0, then not 1", m, 4, 0, 5, 1, 2, 3);
        isStar("from 0 on", m, 5, 0, 1, 4);
        m.point(500, 0);
        isStar("the greatest between others", m, 4, 0, 5, 6, 2, 3);
        SquareMesh last = new SquareMesh();
        last.point(1, 400);
        last.point(0, 300);
        last.point(-300, 0);
        last.point(300, 0);
        last.point(0, 50);
        // 8 has 5 above, 6 to the left, 7 to the right; below it 0 and 1
        Due.is("the least ahead of all", last.star(8, 0), least(last, 8));
        Due.is("of 5, too", last.star(5, 0), least(last, 5));
        Due.says(27, "STAR: the i-th.");
        SquareMesh full = Meshes.full();
        Due.is("of the last POINT the first", full.star(39, 0), least(full, 39));
        Due.is("of the last POINT the last", full.star(39, full.of(39, 2) - 1) != -1, true);
        Due.is("of the last POINT no more", full.star(39, full.of(39, 2)), -1);
    }

    private static int least(SquareMesh m, int p) {
        for (int q = 0; q < 40; q++) {
            if (m.isEdge(p, q)) {
                return q;
            }
        }
        return -1;
    }

    private static void starOnTheBorder() {
        Due.says(27, "(of a POINT on the BORDER: from the first one against the clock behind the outside on)");
        SquareMesh plain = new SquareMesh();
        isStar("below, to the left", plain, 0, 1, 2, 3);
        isStar("below, to the right", plain, 1, 2, 0);
        isStar("above, to the right", plain, 2, 3, 0, 1);
        isStar("above, to the left", plain, 3, 0, 2);
        int[] xs = {1000, 0, -1000, 0};
        int[] ys = {0, 1000, 0, -1000};
        int[][] due = {{2, 3, 0, 1}, {3, 0, 1, 2}, {0, 1, 2, 3}, {1, 2, 3, 0}};
        for (int k = 0; k < 4; k++) {
            SquareMesh m = new SquareMesh();
            m.point(xs[k], ys[k]);
            isStar("on side " + k, m, 4, due[k]);
        }
        SquareMesh two = new SquareMesh();
        two.point(1000, 0);
        two.point(1000, 999);
        // the corner behind 5 has 5 and 3 alone
        isStar("above, to the right of 5", two, 2, 3, 5);
    }

    private static void starRefused() {
        Due.says(27, "NONE: there is none such.");
        SquareMesh m = Meshes.middle();
        for (int i : new int[] {-1, -2, 4, 5, 40, MIN, MAX}) {
            Due.is("star(4, " + i + ")", m.star(4, i), -1);
        }
        Due.is("star(0, 2)", m.star(0, 2), 3);
        Due.is("star(0, 3)", m.star(0, 3), -1);
        for (int p : Meshes.noPoints(5)) {
            Due.is("star(" + p + ", 0)", m.star(p, 0), -1);
        }
    }

    private static void ring() {
        Due.says(28, "RING k (0 ..): bits.");
        SquareMesh plain = new SquareMesh();
        for (int p = 0; p < 4; p++) {
            Due.is("ring(" + p + ", 0)", plain.ring(p, 0), 1L << p);
        }
        Due.is("ring(1, 1)", plain.ring(1, 1), Meshes.bits(0, 2));
        Due.is("ring(1, 2)", plain.ring(1, 2), Meshes.bits(3));
        Due.is("ring(1, 3)", plain.ring(1, 3), 0);
        SquareMesh full = Meshes.full();
        Due.is("the last POINT itself", full.ring(39, 0), 1L << 39);
        Due.is("the last POINT one away", full.ring(2, 1) >>> 39, 1);
        Due.says(28, "RING k of a POINT: POINTS k EDGES away (fewest).");
        // in one line up: 4, 5, 6, 7; the sides of the square are nearer than one another
        long all = 0;
        for (int k = 0; k < 40; k++) {
            Due.is("of ring " + k + " none yet", all & full.ring(4, k), 0);
            all |= full.ring(4, k);
        }
        Due.is("all POINTS", all, (1L << 40) - 1);
        SquareMesh m = Meshes.middle();
        Due.is("0 and 2 over 4", m.ring(0, 2), Meshes.bits(2));
        Due.is("1, 3 and 4 at once", m.ring(0, 1), Meshes.bits(1, 3, 4));
    }

    private static void ringRefused() {
        Due.says(28, "0 for others.");
        SquareMesh m = Meshes.middle();
        for (int k : new int[] {-1, -2, 3, 4, 39, 40, 64, MIN, MAX}) {
            Due.is("ring(0, " + k + ")", m.ring(0, k), 0);
        }
        for (int p : Meshes.noPoints(5)) {
            Due.is("ring(" + p + ", 0)", m.ring(p, 0), 0);
            Due.is("ring(" + p + ", 1)", m.ring(p, 1), 0);
        }
    }

    private static void crossed() {
        Due.says(29, "CROSSED by a straight line from POINT to POINT: EDGES that it crosses (both between their ends).");
        SquareMesh m = Meshes.four();
        Due.is("over one", m.crossed(5, 7), 1);
        Due.is("an EDGE itself", m.crossed(4, 6), 0);
        Due.is("through POINTS 6 and 4", m.crossed(0, 2), 0);
        // over 5 to 7's sides it goes through both POINTS, and over 4 to 6 between them
        Due.is("through 5 and 7 over one", m.crossed(1, 3), 1);
        Due.is("along the BORDER", m.crossed(2, 3), 0);
        SquareMesh line = new SquareMesh();
        line.point(0, 0);
        line.point(0, 100);
        line.point(0, 200);
        Due.is("along two EDGES", line.crossed(4, 6), 0);
        line.move(5, 1, 100);
        Due.is("beside a POINT", line.crossed(4, 6) >= 0, true);
        // 4 (0, 0), 5 (1, 0), 6 (0, 1), 7 (1, -1): all DOUBLE AREAS are 1
        SquareMesh least = new SquareMesh();
        least.point(0, 0);
        least.point(1, 0);
        least.point(0, 1);
        least.point(1, -1);
        Due.is("the least there can be", least.crossed(6, 7), 1);
        Due.is("the least, the other way", least.crossed(7, 6), 1);
        Due.says(29, "CROSSED: how many EDGES.");
        SquareMesh plain = new SquareMesh();
        Due.is("crossed(1, 3)", plain.crossed(1, 3), 1);
        Due.is("crossed(3, 1)", plain.crossed(3, 1), 1);
        plain.fix(0, 2);
        Due.is("a FIXED one, too", plain.crossed(3, 1), 1);
    }

    private static void crossedRefused() {
        Due.says(29, "NONE for others (unlike POINTS).");
        SquareMesh m = Meshes.middle();
        for (int p = 0; p < 5; p++) {
            Due.is("crossed(" + p + ", " + p + ")", m.crossed(p, p), -1);
        }
        for (int p : Meshes.noPoints(5)) {
            Due.is("crossed(0, " + p + ")", m.crossed(0, p), -1);
            Due.is("crossed(" + p + ", 0)", m.crossed(p, 0), -1);
            Due.is("crossed(" + p + ", " + p + ")", m.crossed(p, p), -1);
        }
        Due.is("the last POINT", Meshes.full().crossed(39, 2), 0);
    }

    private static void sees() {
        Due.says(30, "SEES: a POINT another one, if no POINT lies between both on the straight line");
        SquareMesh m = new SquareMesh();
        m.point(-300, -100);
        m.point(0, 0);
        m.point(300, 100);
        Due.is("a POINT between", m.sees(4, 6), false);
        Due.is("the other way", m.sees(6, 4), false);
        Due.is("up to it", m.sees(4, 5), true);
        Due.is("from it on", m.sees(5, 6), true);
        m.move(5, 0, 1);
        Due.is("beside it", m.sees(4, 6), true);
        m.move(5, -301, -100);
        Due.is("near an end", m.sees(4, 6), true);
        m.move(5, 600, 200);
        Due.is("behind an end", m.sees(4, 6), true);
        Due.is("over that end", m.sees(4, 5), false);
        Due.says(30, "SEES.");
        m.point(0, 1000);
        Due.is("on the BORDER", m.sees(3, 2), false);
        SquareMesh near = new SquareMesh();
        near.point(0, 0);
        near.point(1, 0);
        near.point(2, 0);
        Due.is("one between, by 1 and 1", near.sees(4, 6), false);
        Due.is("up to it by 1", near.sees(4, 5), true);
        Due.is("on the BORDER up to it", m.sees(3, 7), true);
        Due.is("of the square's own", m.sees(1, 3), true);
    }

    private static void seesOverEdges() {
        Due.says(30, "no FIXED EDGE is CROSSED");
        SquareMesh m = Meshes.four();
        Due.is("over an EDGE that isn't FIXED", m.sees(5, 7), true);
        m.fix(4, 6);
        Due.is("over it FIXED", m.sees(5, 7), false);
        Due.is("the other way", m.sees(7, 5), false);
        Due.is("along it", m.sees(4, 6), true);
        Due.is("to its end", m.sees(5, 6), true);
        m.free(4, 6);
        Due.is("FREED", m.sees(5, 7), true);
        SquareMesh first = Meshes.firstEdge(0, 0);
        Due.is("over 0 to 4, the first EDGE of all", first.sees(5, 6), false);
        Due.is("CROSSED by it", first.crossed(5, 6), 1);
        Due.is("CUT there", first.cut(-400, -600, -600, -400), 1);
        SquareMesh end = new SquareMesh();
        end.point(0, 0);
        end.point(0, 100);
        end.fix(4, 5);
        end.point(-50, 101);
        end.point(50, 101);
        Due.is("just above its end", end.sees(6, 7), true);
        end.move(6, -50, 99);
        Due.is("through its end", end.sees(6, 7), false);
        end.move(7, 50, 100);
        Due.is("just below its end", end.sees(6, 7), false);
    }

    private static void seesRefused() {
        Due.says(30, "False for others (unlike POINTS).");
        SquareMesh m = Meshes.middle();
        for (int p = 0; p < 5; p++) {
            Due.is("sees(" + p + ", " + p + ")", m.sees(p, p), false);
        }
        for (int p : Meshes.noPoints(5)) {
            Due.is("sees(0, " + p + ")", m.sees(0, p), false);
            Due.is("sees(" + p + ", 4)", m.sees(p, 4), false);
            Due.is("sees(" + p + ", " + p + ")", m.sees(p, p), false);
        }
        m.drop(4);
        Due.is("one TAKEN OUT", m.sees(0, 4), false);
    }

    private static void seen() {
        Due.says(31, "POINTS that a POINT SEES (bits).");
        SquareMesh plain = new SquareMesh();
        Due.is("of the square 0", plain.seen(0), Meshes.bits(1, 2, 3));
        Due.is("of the square 3", plain.seen(3), Meshes.bits(0, 1, 2));
        SquareMesh m = Meshes.middle();
        Due.is("not over 4", m.seen(0), Meshes.bits(1, 3, 4));
        Due.is("4 all, not itself", m.seen(4), Meshes.bits(0, 1, 2, 3));
        SquareMesh full = Meshes.full();
        Due.is("the last POINT seen", full.seen(2) >>> 39, 1);
        Due.is("the last POINT sees the corner", full.seen(39) >>> 2 & 1, 1);
        Due.is("not the one behind the next", full.seen(39) >>> 37 & 1, 0);
        Due.says(31, "0 for others.");
        for (int p : Meshes.noPoints(5)) {
            Due.is("seen(" + p + ")", m.seen(p), 0);
        }
    }
}
