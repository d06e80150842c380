/** What the document says of regions, holes in them and passages through them (promises 32, 33, 47 and 52). */
final class RegionSentences {
    private static final int MIN = Meshes.MIN;
    private static final int MAX = Meshes.MAX;

    private RegionSentences() {
    }

    static void all() {
        regions();
        regionRefused();
        ofRegion();
        hollow();
        asTheMeshIsNow();
        ofRegionRefused();
        firm();
        passage();
        passageOfLikeOnes();
        passageRefused();
    }

    /** Point 4 in the middle, fixed to all corners: four regions of a triangle each. */
    private static SquareMesh quarters() {
        SquareMesh m = Meshes.middle();
        for (int p = 0; p < 4; p++) {
            m.fix(p, 4);
        }
        return m;
    }

    private static void regions() {
        Due.says(32, "REGIONS: TRIANGLES together that one comes to from one another by EDGES that aren't FIXED; in order by "
            + "their first TRIANGLES.");
        SquareMesh plain = new SquareMesh();
        Due.is("one of all", plain.region(1), 0);
        plain.fix(0, 2);
        Due.is("the second alone", plain.region(1), 1);
        SquareMesh m = quarters();
        for (int t = 0; t < 4; t++) {
            Due.is("region(" + t + ")", m.region(t), t);
        }
        m.free(1, 4);
        int[] due = {0, 1, 0, 2};
        for (int t = 0; t < 4; t++) {
            Due.is("region(" + t + ") without 1 to 4", m.region(t), due[t]);
        }
        m.free(0, 4);
        m.fix(1, 4);
        due = new int[] {0, 0, 1, 2};
        for (int t = 0; t < 4; t++) {
            Due.is("region(" + t + ") without 0 to 4", m.region(t), due[t]);
        }
        m.free(3, 4);
        due = new int[] {0, 0, 1, 0};
        for (int t = 0; t < 4; t++) {
            Due.is("region(" + t + ") round 4", m.region(t), due[t]);
        }
        SquareMesh all = Meshes.full();
        for (int p = 4; p < 40; p++) {
            for (int k = 0; k < 8; k++) {
                int q = all.star(p, k);
                if (q > p) {
                    all.fix(p, q);
                }
            }
        }
        Due.says(32, "Which REGION the i-th TRIANGLE is of.");
        Due.is("the last of many", all.region(73) > 40, true);
        Due.is("as many as are told", all.region(73) < all.is(5), true);
    }

    private static void regionRefused() {
        Due.says(32, "NONE: there is none such.");
        SquareMesh m = Meshes.halves();
        Due.is("the last", m.region(3), 1);
        for (int i : new int[] {4, 5, -1, -2, MIN, MAX}) {
            Due.is("region(" + i + ")", m.region(i), -1);
        }
        Due.is("the last of a full one", Meshes.full().region(73), 0);
        Due.is("the one behind it", Meshes.full().region(74), -1);
    }

    private static void ofRegion() {
        Due.says(33, "Of a REGION: 0 how many TRIANGLES, 1 DOUBLE AREA, 2 whether HOLLOW (1, 0), 3 how many HOLES, 4 how many "
            + "POINTS are at its corners.");
        SquareMesh plain = new SquareMesh();
        int[] due = {2, 8000000, 0, 0, 4};
        for (int what = 0; what < 5; what++) {
            Due.is("ofRegion(0, " + what + ")", plain.ofRegion(0, what), due[what]);
        }
        SquareMesh m = quarters();
        due = new int[] {1, 2000000, 0, 0, 3};
        for (int r = 0; r < 4; r++) {
            for (int what = 0; what < 5; what++) {
                Due.is("ofRegion(" + r + ", " + what + ")", m.ofRegion(r, what), due[what]);
            }
        }
        SquareMesh full = Meshes.full();
        Due.is("TRIANGLES of a full one", full.ofRegion(0, 0), 74);
        Due.is("POINTS of a full one", full.ofRegion(0, 4), 40);
        // two triangles of one region that meet at point 4 alone, round others
        m.point(0, -500);
        m.free(1, 4);
        m.free(2, 4);
        Due.is("each POINT once", m.ofRegion(0, 4), 6);
    }

    private static void hollow() {
        Due.says(33, "2 whether HOLLOW (1, 0), 3 how many HOLES");
        SquareMesh m = quarters();
        m.hole(0, -1);
        Due.is("HOLLOW by one", m.ofRegion(0, 2), 1);
        m.hole(0, -2);
        m.hole(0, -1);
        Due.is("HOLLOW by three", m.ofRegion(0, 2), 1);
        Due.is("HOLES", m.ofRegion(0, 3), 3);
        Due.is("HOLES of others", m.ofRegion(1, 3), 0);
        m.hole(0, 1000);
        Due.is("on the BORDER", m.ofRegion(3, 3), 1);
        Due.says(33, "a REGION in which the TRIANGLE lies, in which such a place is IN (as THE MESH is now), is HOLLOW");
        m.hole(500, 500);
        Due.is("on a FIXED EDGE, in the first TRIANGLE", m.ofRegion(2, 3), 1);
        Due.is("not in the other", m.ofRegion(3, 3), 1);
        m.hole(0, 0);
        Due.is("at a POINT of all", m.ofRegion(0, 3), 4);
        m.hole(1000, 1000);
        Due.is("at a corner", m.ofRegion(2, 3), 2);
        m.hole(-1000, 1000);
        Due.is("at another", m.ofRegion(1, 3), 1);
        Due.is("is(9)", m.is(9), 4);
    }

    private static void asTheMeshIsNow() {
        Due.says(33, "(as THE MESH is now)");
        SquareMesh m = Meshes.halves();
        m.hole(500, -499);
        Due.is("above the line", m.ofRegion(1, 3), 1);
        m.free(4, 1);
        Due.is("of all", m.ofRegion(0, 3), 1);
        m.fix(4, 2);
        Due.is("below the new line", m.ofRegion(0, 3), 1);
        Due.is("not above it", m.ofRegion(1, 3), 0);
        m.free(3, 4);
        m.free(4, 2);
        m.fix(1, 4);
        m.fix(0, 4);
        Due.is("in the rest", m.ofRegion(1, 3), 1);
    }

    private static void ofRegionRefused() {
        Due.says(33, "NONE for others.");
        SquareMesh m = Meshes.halves();
        for (int what = 0; what < 5; what++) {
            for (int r : new int[] {2, 3, -1, MIN, MAX}) {
                Due.is("ofRegion(" + r + ", " + what + ")", m.ofRegion(r, what), -1);
            }
        }
        for (int what : new int[] {5, 6, -1, MIN, MAX}) {
            Due.is("ofRegion(1, " + what + ")", m.ofRegion(1, what), -1);
        }
    }

    private static void firm() {
        Due.says(47, "DOUBLE AREA of all REGIONS that aren't HOLLOW.");
        SquareMesh m = quarters();
        Due.is("no HOLES", m.firm(), 8000000);
        int[][] places = {{0, -1}, {-1, 0}, {1, 0}, {0, 1}};
        for (int k = 0; k < 4; k++) {
            m.hole(places[k][0], places[k][1]);
            Due.is("HOLLOW: " + (k + 1), m.firm(), 2000000 * (3 - k));
        }
        m.hole(0, 1);
        Due.is("two HOLES in one", m.firm(), 0);
        m.fill();
        Due.is("one of two filled", m.firm(), 0);
        m.fill();
        Due.is("both filled", m.firm(), 2000000);
    }

    private static void passage() {
        Due.says(52, "from the TRIANGLE in which the one is IN to that of the other one, over EDGES that aren't FIXED, the fewest "
            + "(HOLLOW or not)");
        SquareMesh m = Meshes.halves();
        Due.is("in one TRIANGLE", m.passage(0, -500, 0, -400, -1), 0);
        Due.is("it", m.passage(0, -500, 0, -400, 0), 0);
        Due.is("no more", m.passage(0, -500, 0, -400, 1), -1);
        Due.is("one place", m.passage(0, 900, 0, 900, 0), 3);
        Due.is("to the next one", m.passage(0, -500, -500, 0, -1), 1);
        // on the fixed line both places are IN the first TRIANGLE
        Due.is("from an EDGE of both", m.passage(500, -500, 0, -500, -1), 0);
        Due.is("from an EDGE of both to the other", m.passage(500, -500, 500, 0, -1), -1);
        m.hole(-500, 0);
        m.hole(0, -500);
        Due.is("HOLLOW", m.passage(0, -500, -500, 0, -1), 1);
        m.free(1, 4);
        // from (0, 1, 4) to (2, 3, 4): 3 to 4 is FIXED
        Due.is("round 4", m.passage(0, -500, 0, 500, -1), 2);
        Due.is("over the one that is open", m.passage(0, -500, 0, 500, 1), 2);
        Due.is("the long way", m.passage(-500, 0, 0, 500, -1), 3);
        SquareMesh ring = Meshes.middle();
        ring.fix(0, 4);
        // from (0, 4, 3) to (1, 2, 4): TRIANGLE 0 is as near, but behind a FIXED EDGE
        Due.is("not over the FIXED one to 0", ring.passage(-500, 0, 500, 0, 1), 3);
        Due.says(52, "PASSAGE: how many EDGES (i NONE); the i-th TRIANGLE (0: the first one).");
        int[] due = {1, 0, 2, 3, -1};
        for (int k = 0; k < due.length; k++) {
            Due.is("the long way's " + k, m.passage(-500, 0, 0, 500, k), due[k]);
        }
    }

    private static void passageOfLikeOnes() {
        Due.says(52, "of like ones by the least TRIANGLES, the first one first");
        SquareMesh m = Meshes.middle();
        Due.is("up", m.passage(0, -500, 0, 500, 1), 1);
        Due.is("down", m.passage(0, 500, 0, -500, 1), 1);
        Due.is("to the right", m.passage(-500, 0, 500, 0, 1), 0);
        Due.is("to the left", m.passage(500, 0, -500, 0, 1), 0);
        // 0 (0, 1, 4), 1 (0, 4, 5), 2 (0, 5, 3), 3 (1, 6, 4), 4 (1, 2, 6), 5 (2, 3, 4) or the like:
        // the way whose first step is less goes ahead, whatever comes behind it
        m.point(-500, 0);
        m.point(500, 0);
        int from = m.in(0, -500);
        int to = m.in(0, 500);
        int left = m.triangle(0, 4, 5);
        int right = m.triangle(1, 6, 4);
        Due.is("from " + from + " to " + to, m.passage(0, -500, 0, 500, -1), 3);
        Due.is("the first step", m.passage(0, -500, 0, 500, 1), Math.min(left, right));
        Due.is("the second step", m.passage(0, -500, 0, 500, 2), left < right ? m.triangle(3, 5, 4) : m.triangle(2, 4, 6));
    }

    private static void passageRefused() {
        Due.says(52, "NONE: there is none (such), a place is out of the square.");
        SquareMesh m = Meshes.halves();
        for (int[] place : Meshes.OUT) {
            for (int i = -1; i < 2; i++) {
                Due.is("from " + place[0] + ", " + place[1] + ": " + i, m.passage(place[0], place[1], 0, 1, i), -1);
                Due.is("to " + place[0] + ", " + place[1] + ": " + i, m.passage(0, 1, place[0], place[1], i), -1);
            }
        }
        for (int i = -1; i < 3; i++) {
            Due.is("there is none: " + i, m.passage(0, -500, 0, 500, i), -1);
        }
        for (int i : new int[] {2, 3, -2, MIN, MAX}) {
            Due.is("there is none such: " + i, m.passage(0, -500, -500, 0, i), -1);
        }
        Due.is("in a corner", m.passage(1000, 1000, 1000, 1000, 0), 2);
    }
}
