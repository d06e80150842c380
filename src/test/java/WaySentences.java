/** What the document says of the tree and of ways along edges (promises 37, 38 and 42). */
final class WaySentences {
    private static final int MIN = Meshes.MIN;
    private static final int MAX = Meshes.MAX;

    private WaySentences() {
    }

    static void all() {
        tree();
        treeOfMany();
        treeRefused();
        way();
        wayOfLikeOnes();
        wayRefused();
        lengths();
        shortest();
        shortestOfLikeOnes();
        shortestRefused();
    }

    private static void tree() {
        Due.says(37, "of like ones EDGES by squares, then by the lesser, then the greater number are taken first");
        // of four like sides: 0 and 1, 0 and 3, 1 and 2
        SquareMesh plain = new SquareMesh();
        int[] due = {0, 1, 0, 3, 1, 2};
        for (int k = 0; k < 3; k++) {
            Due.is("tree(" + k + ", 0)", plain.tree(k, 0), due[2 * k]);
            Due.is("tree(" + k + ", 1)", plain.tree(k, 1), due[2 * k + 1]);
            Due.is("tree(" + k + ", 2)", plain.tree(k, 2), 4000000);
        }
        // the least square first, whatever the numbers: 6 and 7, then 4 and 5
        SquareMesh m = new SquareMesh();
        m.point(0, 0);
        m.point(0, 11);
        m.point(500, 0);
        m.point(500, 10);
        Due.is("the least square", m.tree(0, 2), 100);
        Due.is("of 6", m.tree(0, 0), 6);
        Due.is("and 7", m.tree(0, 1), 7);
        Due.is("the next square", m.tree(1, 2), 121);
        Due.is("of 4", m.tree(1, 0), 4);
        // an EDGE between POINTS that are joined is left out: 4 and 7 with 4 and 5, 6 and 7, 4 and 6
        Due.says(37, "EDGES of THE MESH that join all POINTS, with squares of lengths together least");
        SquareMesh four = Meshes.four();
        int[] joined = {4, 5, 4, 7, 5, 6};
        for (int k = 0; k < 3; k++) {
            Due.is("joined: tree(" + k + ", 0)", four.tree(k, 0), joined[2 * k]);
            Due.is("joined: tree(" + k + ", 1)", four.tree(k, 1), joined[2 * k + 1]);
        }
        Due.is("not 6 and 7", four.tree(3, 0), 0);
    }

    private static void treeOfMany() {
        Due.says(37, "TREE: how many EDGES (i NONE; what 0); of the i-th as it was taken: 0 the lesser, 1 the greater POINT, 2 "
            + "the square.");
        Due.is("of a new one", new SquareMesh().tree(-1, 0), 3);
        SquareMesh full = Meshes.full();
        Due.is("of all 40", full.tree(-1, 0), 39);
        int[] part = new int[40];
        for (int p = 0; p < 40; p++) {
            part[p] = p;
        }
        int last = 0;
        for (int k = 0; k < 39; k++) {
            int a = full.tree(k, 0);
            int b = full.tree(k, 1);
            int square = full.tree(k, 2);
            Due.is("the lesser first at " + k, a < b, true);
            Due.is("the squares rise at " + k, square >= last, true);
            Due.is("it joins two parts at " + k, part[a] != part[b], true);
            last = square;
            int gone = part[b];
            for (int p = 0; p < 40; p++) {
                part[p] = part[p] == gone ? part[a] : part[p];
            }
        }
        // 35 sides of the grid's squares; then its corners, like ones all four
        Due.is("the last square", last, 2 * 750 * 750);
        Due.is("the one ahead of the sides", full.tree(34, 2), 10000);
        Due.is("the first behind them", full.tree(35, 0), 0);
        Due.is("the last of the corners", full.tree(38, 0), 3);
    }

    private static void treeRefused() {
        Due.says(37, "NONE: there is none such.");
        SquareMesh plain = new SquareMesh();
        for (int what = 0; what < 3; what++) {
            for (int i : new int[] {3, 4, -2, MIN, MAX}) {
                Due.is("tree(" + i + ", " + what + ")", plain.tree(i, what), -1);
            }
        }
        for (int what : new int[] {3, 4, -1, MIN, MAX}) {
            Due.is("tree(0, " + what + ")", plain.tree(0, what), -1);
            Due.is("tree(-1, " + what + ")", plain.tree(-1, what), -1);
        }
        Due.says(37, "(i NONE; what 0)");
        Due.is("tree(-1, 1)", plain.tree(-1, 1), -1);
        Due.is("tree(-1, 2)", plain.tree(-1, 2), -1);
        SquareMesh full = Meshes.full();
        Due.is("the last of 40 POINTS", full.tree(38, 2) > 0, true);
        Due.is("no more", full.tree(39, 2), -1);
    }

    private static void way() {
        Due.says(38, "WAY: how many EDGES (i NONE); the i-th POINT of it (0: the first one).");
        SquareMesh plain = new SquareMesh();
        for (int p = 0; p < 4; p++) {
            Due.is("to itself", plain.way(p, p, -1), 0);
            Due.is("the first one", plain.way(p, p, 0), p);
            Due.is("no more", plain.way(p, p, 1), -1);
        }
        Due.is("one EDGE", plain.way(0, 2, -1), 1);
        Due.is("its first", plain.way(0, 2, 0), 0);
        Due.is("its last", plain.way(0, 2, 1), 2);
        Due.is("behind it", plain.way(0, 2, 2), -1);
        // far: 4 .. 39 in a row along the middle, fixed on all sides
        SquareMesh row = new SquareMesh();
        for (int k = 0; k < 36; k++) {
            row.point(-999 + 57 * k, 1000);
        }
        Due.is("over many of them", row.way(3, 39, -1) >= 1, true);
        Due.is("the last POINT", row.way(3, 39, row.way(3, 39, -1)), 39);
        Due.is("none behind it", row.way(3, 39, row.way(3, 39, -1) + 1), -1);
    }

    private static void wayOfLikeOnes() {
        Due.says(38, "the fewest EDGES; of like ones by the least numbers, the first one first");
        SquareMesh plain = new SquareMesh();
        Due.is("1 to 3", plain.way(1, 3, 1), 0);
        Due.is("3 to 1", plain.way(3, 1, 1), 0);
        // 0 and 2 by 1, 3 or 4; 1 and 3 by 0, 2 or 4
        SquareMesh m = Meshes.middle();
        Due.is("0 to 2", m.way(0, 2, 1), 1);
        Due.is("2 to 0", m.way(2, 0, 1), 1);
        Due.is("1 to 3", m.way(1, 3, 1), 0);
        Due.is("as few", m.way(1, 3, -1), 2);
        // one EDGE, though those by 5 are shorter together than it
        SquareMesh few = new SquareMesh();
        few.point(0, 0);
        few.point(1, 1);
        few.point(2, 1);
        Due.is("one EDGE alone", few.way(4, 6, -1), 1);
        Due.is("not by 5", few.way(4, 6, 1), 6);
        // the first one first: by 4, then 9, goes ahead of by 5, then 8, though 8 is less than 9
        SquareMesh ladder = new SquareMesh();
        int[] places = {-300, 60, -300, -60, -400, 0, 400, 0, 300, -60, 300, 60};
        for (int k = 0; k < 12; k += 2) {
            ladder.point(places[k], places[k + 1]);
        }
        for (int k = 4; k < 6; k++) {
            Due.is("6 to " + k, ladder.isEdge(6, k), true);
        }
        Due.is("4 to 9", ladder.isEdge(4, 9), true);
        Due.is("5 to 8", ladder.isEdge(5, 8), true);
        Due.is("three EDGES", ladder.way(6, 7, -1), 3 - (ladder.isEdge(0, 6) && ladder.isEdge(0, 7) ? 1 : 0));
        Due.is("the first", ladder.way(6, 7, 1), leastTo(ladder, 6, 7));
    }

    // the least neighbour that is one edge nearer
    private static int leastTo(SquareMesh m, int p, int goal) {
        int away = m.way(p, goal, -1);
        for (int q = 0; q < 40; q++) {
            if (m.isEdge(p, q) && m.way(q, goal, -1) == away - 1) {
                return q;
            }
        }
        return -1;
    }

    private static void wayRefused() {
        Due.says(38, "NONE: there is none such, and for others.");
        SquareMesh m = Meshes.middle();
        for (int i : new int[] {-2, 3, 4, 39, 40, MIN, MAX}) {
            Due.is("way(0, 2, " + i + ")", m.way(0, 2, i), -1);
        }
        for (int p : Meshes.noPoints(5)) {
            for (int i = -1; i < 2; i++) {
                Due.is("way(" + p + ", 0, " + i + ")", m.way(p, 0, i), -1);
                Due.is("way(0, " + p + ", " + i + ")", m.way(0, p, i), -1);
                Due.is("way(" + p + ", " + p + ", " + i + ")", m.way(p, p, i), -1);
            }
        }
    }

    private static void lengths() {
        Due.says(42, "LENGTH of an EDGE: the whole root of its square (downward).");
        // of 1, 2, 4, 5, 8 (9 less 1), 9, 10, 25, 26, 80 (81 less 1)
        int[] xs = {1, 1, 2, 1, 2, 3, 3, 3, 5, 8, 40, 99};
        int[] ys = {0, 1, 0, 2, 2, 0, 1, 4, 1, 4, 9, 20};
        int[] due = {1, 1, 2, 2, 2, 3, 3, 5, 5, 8, 41, 101};
        for (int k = 0; k < xs.length; k++) {
            SquareMesh m = new SquareMesh();
            m.point(0, 0);
            m.point(xs[k], ys[k]);
            Due.is("of " + xs[k] + " and " + ys[k], m.shortest(4, 5, -1), due[k]);
        }
        SquareMesh plain = new SquareMesh();
        Due.is("of 4000000", plain.shortest(0, 1, -1), 2000);
        Due.is("of 8000000, the greatest", plain.shortest(0, 2, -1), 2828);
        SquareMesh near = new SquareMesh();
        near.point(1000, 999);
        Due.is("of 3999 less than it", near.shortest(0, 4, -1), 2827);
    }

    private static void shortest() {
        Due.says(42, "SHORTEST: LENGTHS together (i NONE); the i-th POINT of it (0: the first one).");
        SquareMesh m = new SquareMesh();
        m.point(0, 500);
        // 0 to 4: 1802; 4 to 2: 1118; 1 and 3 are 4000 together
        Due.is("0 to 2", m.shortest(0, 2, -1), 2920);
        Due.is("the first one", m.shortest(0, 2, 0), 0);
        Due.is("over 4", m.shortest(0, 2, 1), 4);
        Due.is("the last one", m.shortest(0, 2, 2), 2);
        Due.is("no more", m.shortest(0, 2, 3), -1);
        for (int p = 0; p < 5; p++) {
            Due.is("to itself", m.shortest(p, p, -1), 0);
            Due.is("itself", m.shortest(p, p, 0), p);
            Due.is("itself alone", m.shortest(p, p, 1), -1);
        }
        Due.says(42, "along EDGES, LENGTHS together least");
        // each LENGTH is whole: 1 and 1 by 5 is less than the 5 of 3 and 4 over another
        SquareMesh row = new SquareMesh();
        for (int k = 0; k < 36; k++) {
            row.point(k, 0);
        }
        Due.is("35 EDGES of 1", row.shortest(4, 39, -1), 35);
        for (int k = 0; k < 36; k++) {
            Due.is("POINT " + k, row.shortest(4, 39, k), 4 + k);
        }
        Due.is("no more of 35", row.shortest(4, 39, 36), -1);
        Due.is("back", row.shortest(39, 4, 35), 4);
    }

    private static void shortestOfLikeOnes() {
        Due.says(42, "LENGTHS together least; of like ones by the least numbers, the first one first");
        SquareMesh plain = new SquareMesh();
        Due.is("1 to 3", plain.shortest(1, 3, 1), 0);
        Due.is("3 to 1", plain.shortest(3, 1, 1), 0);
        Due.is("4000", plain.shortest(3, 1, -1), 4000);
        // 4 to 6: 2 (of 5), or by 5: 1 (of 2) and 1; 5 is less than 6, and 4 than 5
        SquareMesh m = new SquareMesh();
        m.point(0, 0);
        m.point(1, 1);
        m.point(2, 1);
        Due.is("4 to 6", m.shortest(4, 6, -1), 2);
        Due.is("by 5", m.shortest(4, 6, 1), 5);
        Due.is("then 6", m.shortest(4, 6, 2), 6);
        Due.is("not more", m.shortest(4, 6, 3), -1);
        Due.is("back at once", m.shortest(6, 4, 1), 4);
        Due.is("not more back", m.shortest(6, 4, 2), -1);
    }

    private static void shortestRefused() {
        Due.says(42, "NONE: there is none such, and for others.");
        SquareMesh m = Meshes.middle();
        for (int i : new int[] {-2, 3, 4, 39, 40, MIN, MAX}) {
            Due.is("shortest(0, 2, " + i + ")", m.shortest(0, 2, i), -1);
        }
        for (int p : Meshes.noPoints(5)) {
            for (int i = -1; i < 2; i++) {
                Due.is("shortest(" + p + ", 0, " + i + ")", m.shortest(p, 0, i), -1);
                Due.is("shortest(0, " + p + ", " + i + ")", m.shortest(0, p, i), -1);
                Due.is("shortest(" + p + ", " + p + ", " + i + ")", m.shortest(p, p, i), -1);
            }
        }
    }
}
