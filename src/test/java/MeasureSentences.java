/** What the document says of lengths, numbers of edges, thin and bent ones, colours and the centre (35, 36, 39, 40, 43, 44, 58). */
final class MeasureSentences {
    private static final int MIN = Meshes.MIN;
    private static final int MAX = Meshes.MAX;

    private MeasureSentences() {
    }

    static void all() {
        length();
        busiest();
        bent();
        bentInOrder();
        bentRefused();
        thinnest();
        colour();
        colourOfMany();
        centre();
        mean();
        meanOfMany();
    }

    private static void length() {
        Due.says(35, "Square of the length of the shortest EDGE (0), of the longest one (1).");
        SquareMesh plain = new SquareMesh();
        Due.is("the shortest", plain.length(0), 4000000);
        Due.is("the longest there can be", plain.length(1), 8000000);
        plain.fix(1, 3);
        Due.is("the last EDGES", plain.length(1), 8000000);
        SquareMesh m = Meshes.told(0, 0, 1, 0);
        Due.is("the shortest there can be", m.length(0), 1);
        Due.is("the longest then", m.length(1), 4000000);
        // the last EDGE, of the last two POINTS, is the shortest
        SquareMesh full = Meshes.full();
        full.move(39, 151, 250);
        Due.is("the shortest, 38 to 39", full.length(0), 1);
        // the first EDGE, 0 to 4, is the shortest; then 0 to 1 is the longest of all
        Due.is("the shortest, 0 to 4", Meshes.told(-999, -1000).length(0), 1);
        SquareMesh first = Meshes.firstEdge(-999, -999);
        Due.is("the shortest, the first EDGE of all", first.length(0), 2);
        Due.says(35, "NONE for others.");
        for (int what : new int[] {2, 3, -1, MIN, MAX}) {
            Due.is("length(" + what + ")", m.length(what), -1);
        }
    }

    private static void busiest() {
        Due.says(36, "The POINT with most EDGES (0; of like ones the least), with fewest (1).");
        SquareMesh plain = new SquareMesh();
        Due.is("most, of 0 and 2", plain.busiest(0), 0);
        Due.is("fewest, of 1 and 3", plain.busiest(1), 1);
        plain.fix(1, 3);
        Due.is("most, of 1 and 3", plain.busiest(0), 1);
        Due.is("fewest, of 0 and 2", plain.busiest(1), 0);
        SquareMesh m = Meshes.middle();
        Due.is("most, 4 alone", m.busiest(0), 4);
        Due.is("fewest, of four", m.busiest(1), 0);
        SquareMesh full = Meshes.full();
        for (int k = 0; k < 36; k++) {
            full.move(4 + k, k < 35 ? 950 - k : 0, k < 35 ? 1000 : 0);
        }
        Due.is("most, the last POINT", full.busiest(0), 39);
        SquareMesh last = Meshes.told(0, 1000);
        // 0 has 1, 4, 3, and 1 as many
        Due.is("fewest, behind 0 and 1", last.busiest(1), 2);
        Due.says(36, "NONE for others.");
        for (int what : new int[] {2, 3, -1, MIN, MAX}) {
            Due.is("busiest(" + what + ")", m.busiest(what), -1);
        }
    }

    private static void bent() {
        Due.says(39, "BENT: EDGES that are FIXED, of two TRIANGLES, and would not be allowed if they weren't (as they lie).");
        // on one circle 4 to 6 is allowed; 7 outside of it: 4 to 6; 7 inside of it: 5 to 7
        for (int by = -1; by < 2; by++) {
            SquareMesh one = Meshes.told(-300, -400, 300, -400, 300, 400, -300 + by, 400);
            one.fix(4, 6);
            Due.is("4 to 6, 7 by " + by, one.bent(0), by > 0 ? 406 : -1);
            Due.is("how many", one.is(7), by > 0 ? 1 : 0);
            SquareMesh other = Meshes.told(-300, -400, 300, -400, 300, 400, -300 + by, 400);
            other.fix(5, 7);
            Due.is("5 to 7, 7 by " + by, other.bent(0), by > 0 ? -1 : 507);
            Due.is("how many others", other.is(7), by > 0 ? 0 : 1);
        }
        SquareMesh m = Meshes.four();
        m.fix(5, 7);
        Due.is("as they lie", m.bent(0), 507);
        m.move(4, 900, 0);
        m.move(6, -900, 0);
        Due.is("as they lie then", m.bent(0), -1);
        SquareMesh first = Meshes.firstEdge(100, 100);
        Due.is("the first EDGE of all", first.bent(0), 4);
        Due.is("it alone", first.is(7), 1);
        Due.says(39, "of two TRIANGLES");
        Due.is("no BORDER one", Meshes.told(0, 1000, 0, 999).is(7), 0);
    }

    private static void bentInOrder() {
        Due.says(39, "The BENT ones: the i-th (by the lesser, then the greater number): 100 times the lesser and the greater.");
        // a grid by 100, each square with its line from the lesser X and Y on; 4 has two that go across
        SquareMesh m = Meshes.told(0, 100, 100, 0, -100, 200, 0, 0, 100, 100, -100, 100, 0, 200, 200, 100, 200, 0);
        m.fix(6, 4);
        m.fix(8, 12);
        Due.is("4 to 6", m.bent(0), 406);
        Due.is("8 to 12", m.bent(1), 812);
        m.fix(5, 4);
        Due.is("the least greater number", m.bent(0), 405);
        Due.is("the next", m.bent(1), 406);
        Due.is("the greater lesser number", m.bent(2), 812);
        Due.is("no more", m.bent(3), -1);
        m.fix(8, 7);
        Due.is("not one from the lesser X and Y on", m.is(7), 3);
        m.free(8, 12);
        m.free(4, 6);
        Due.is("FREED", m.bent(1), -1);
    }

    private static void bentRefused() {
        Due.says(39, "NONE: there is none.");
        Due.is("none at all", new SquareMesh().bent(0), -1);
        SquareMesh m = Meshes.four();
        m.fix(5, 7);
        for (int i : new int[] {1, 2, -1, -2, MIN, MAX}) {
            Due.is("bent(" + i + ")", m.bent(i), -1);
        }
    }

    private static void thinnest() {
        Due.says(40, "THINNEST: of all TRIANGLES the one whose DOUBLE AREA by the square of its longest EDGE (a fraction) is "
            + "least, of like ones the first.");
        Due.is("of two like ones", new SquareMesh().thinnest(), 0);
        Due.is("of four like ones", Meshes.middle().thinnest(), 0);
        Due.says(40, "THINNEST: the TRIANGLE.");
        // (0, 1, 4), (0, 4, 3), (1, 2, 4), (2, 3, 4): half the DOUBLE AREA is 1000 and what is by one more or less
        int[][] places = {{0, -1}, {-1, 0}, {1, 0}, {0, 1}};
        for (int t = 0; t < 4; t++) {
            Due.is("by one, " + t, Meshes.told(places[t]).thinnest(), t);
        }
        // of like shape, 200 by 40000 and 800 by 160000
        int[] small = {-100, -300, 100, -300, 0, -299, -200, 300, 200, 300, 0, 302};
        SquareMesh alike = Meshes.told(small);
        alike.fix(4, 5);
        alike.fix(7, 8);
        Due.is("of like ones, the lesser one first", alike.thinnest(), alike.triangle(4, 5, 6));
        int[] great = {-200, 300, 200, 300, 0, 302, -100, -300, 100, -300, 0, -299};
        alike = Meshes.told(great);
        alike.fix(4, 5);
        alike.fix(7, 8);
        Due.is("of like ones, the greater one first", alike.thinnest(), alike.triangle(4, 5, 6));
        alike.move(6, 1, 302);
        Due.is("the same DOUBLE AREA by the same EDGE", alike.thinnest(), alike.triangle(4, 5, 6));
        alike.free(4, 5);
        alike.move(5, 199, 300);
        alike.fix(4, 5);
        Due.is("a shorter EDGE", alike.thinnest(), alike.triangle(7, 8, 9));
        for (int g = 0; g < 20; g++) {
            SquareMesh m = new SquareMesh();
            m.tell(g);
            m.drawn(12, 10 + 50 * g);
            Due.is("drawn by G " + g, m.thinnest(), thinnestOf(m));
        }
    }

    private static int thinnestOf(SquareMesh m) {
        int best = 0;
        long bestSquare = longestOf(m, 0);
        int triangles = m.is(1);
        for (int t = 1; t < triangles; t++) {
            long square = longestOf(m, t);
            if (m.area(t) * bestSquare < m.area(best) * square) {
                best = t;
                bestSquare = square;
            }
        }
        return best;
    }

    private static long longestOf(SquareMesh m, int t) {
        long longest = 0;
        int[] xs = new int[3];
        int[] ys = new int[3];
        for (int k = 0; k < 3; k++) {
            xs[k] = m.of(m.corner(t, k), 0);
            ys[k] = m.of(m.corner(t, k), 1);
        }
        for (int k = 0; k < 3; k++) {
            long dx = xs[k] - xs[(k + 1) % 3];
            long dy = ys[k] - ys[(k + 1) % 3];
            longest = Math.max(longest, dx * dx + dy * dy);
        }
        return longest;
    }

    private static void colour() {
        Due.says(43, "COLOURS: each POINT, by numbers, has the least number from 0 on that none of its neighbours with lesser "
            + "numbers has.");
        int[] plain = {0, 1, 2, 1};
        for (int p = 0; p < 4; p++) {
            Due.is("colour(" + p + ") of a new one", new SquareMesh().colour(p), plain[p]);
        }
        SquareMesh m = Meshes.middle();
        int[] middle = {0, 1, 0, 1, 2};
        for (int p = 0; p < 5; p++) {
            Due.is("colour(" + p + ") with a middle", m.colour(p), middle[p]);
        }
        Due.is("as many", m.is(12), 3);
        // 5 parts 0 from 1: 0 and 1 have 0, 2 has 1, 3 has 2, 4 has 3, and 5 has 1
        m.point(0, -1000);
        int[] four = {0, 0, 1, 2, 3, 1};
        for (int p = 0; p < 6; p++) {
            Due.is("colour(" + p + ") with 5", m.colour(p), four[p]);
        }
        Due.is("four", m.is(12), 4);
    }

    private static void colourOfMany() {
        Due.says(43, "COLOUR of a POINT.");
        SquareMesh full = Meshes.full();
        SquareMesh twin = Meshes.full();
        int[] own = new int[40];
        int most = 0;
        for (int p = 0; p < 40; p++) {
            own[p] = full.colour(p);
            most = Math.max(most, own[p]);
        }
        int wrong = 0;
        for (int p = 0; p < 40; p++) {
            boolean[] used = new boolean[41];
            int neighbours = twin.of(p, 2);
            for (int k = 0; k < neighbours; k++) {
                int q = twin.star(p, k);
                used[q < p ? own[q] : 40] = true;
            }
            int least = 0;
            while (used[least]) {
                least++;
            }
            wrong += least == own[p] ? 0 : 1;
        }
        Due.is("of 40 in a grid", wrong, 0);
        Due.is("how many", twin.is(12), most + 1);
        Due.says(43, "NONE for others.");
        SquareMesh m = Meshes.middle();
        for (int p : Meshes.noPoints(5)) {
            Due.is("colour(" + p + ")", m.colour(p), -1);
        }
        m.drop(4);
        Due.is("TAKEN OUT", m.colour(4), -1);
    }

    private static void centre() {
        Due.says(44, "CENTRE: the POINT from which the farthest one is the fewest EDGES away, of like ones the least.");
        SquareMesh plain = new SquareMesh();
        Due.is("of 0 and 2", plain.centre(0), 0);
        Due.is("one away", plain.centre(1), 1);
        plain.fix(1, 3);
        Due.is("of 1 and 3", plain.centre(0), 1);
        Due.is("4 alone", Meshes.middle().centre(0), 4);
        Due.says(44, "CENTRE (what 0), how many EDGES away the farthest one is (1).");
        SquareMesh far = Meshes.full();
        int away = far.centre(1);
        int centre = far.centre(0);
        Due.is("one that is as far away", far.ring(centre, away) != 0, true);
        Due.is("none that is farther", far.ring(centre, away + 1), 0);
        for (int p = 0; p < 40; p++) {
            Due.is("from " + p + " one is as far", far.ring(p, away) != 0, true);
            Due.is("from " + p + " ahead of it one is farther", p >= centre || far.ring(p, away + 1) != 0, true);
        }
        Due.says(44, "NONE for others.");
        for (int what : new int[] {2, 3, -1, MIN, MAX}) {
            Due.is("centre(" + what + ")", far.centre(what), -1);
        }
    }

    private static void mean() {
        Due.says(58, "Mean of squares of lengths of all EDGES as doubles (together a whole number, by how many): its bits.");
        Due.is("a whole one", new SquareMesh().mean(), Double.doubleToLongBits(4800000.0));
        Due.is("of 8", Meshes.middle().mean(), Double.doubleToLongBits(24000000.0 / 8));
        Due.is("a fraction of 2", Meshes.told(1, 0).mean(), Double.doubleToLongBits(bySquares(Meshes.told(1, 0)) / 8.0));
        // all POINTS on the upper side: 77 EDGES
        SquareMesh side = new SquareMesh();
        for (int k = 0; k < 6; k++) {
            side.point(k, 1000);
        }
        Due.is("a fraction that is rounded", side.mean(), Double.doubleToLongBits((double) bySquares(side) / 17.0));
    }

    private static long bySquares(SquareMesh m) {
        long sum = 0;
        for (int a = 0; a < 16; a++) {
            for (int b = a + 1; b < 16; b++) {
                if (m.isEdge(a, b)) {
                    long dx = m.of(a, 0) - m.of(b, 0);
                    long dy = m.of(a, 1) - m.of(b, 1);
                    sum += dx * dx + dy * dy;
                }
            }
        }
        return sum;
    }

    private static void meanOfMany() {
        Due.says(58, "as doubles (together a whole number, by how many)");
        for (int g = 0; g < 30; g++) {
            SquareMesh m = new SquareMesh();
            m.tell(g);
            m.drawn(1 + g % 12, g % 2 == 0 ? 1000 : 20);
            long sum = bySquares(m);
            Due.is("drawn by G " + g, m.mean(), Double.doubleToLongBits((double) sum / (double) m.is(2)));
        }
    }
}
