import java.util.Set;
import java.util.TreeSet;

/** What the document says of points drawn, refined and smoothed, of heights, holes and G (promises 7 to 13). */
final class ManySentences {
    private static final int MIN = Meshes.MIN;
    private static final int MAX = Meshes.MAX;
    private static final int G_END = 30047;

    private ManySentences() {
    }

    static void all() {
        drawnHowMany();
        drawnWithin();
        gGoesOn();
        drawnWhereOneIs();
        drawnWhenNoneIsFree();
        drawnRefused();
        heightRange();
        heightRefused();
        refinedHowMany();
        refinedMiddle();
        refinedOfLikeOnes();
        refinedToTheEnd();
        refineRefused();
        smoothedByNumbers();
        smoothedDownward();
        smoothedWhich();
        smoothedWhereOneIs();
        holes();
        holeRefused();
        filled();
        told();
    }

    private static int next(int g) {
        return (int) ((g * 827L + 641) % G_END);
    }

    /** The G behind which G goes on to this one. */
    private static int ahead(int g) {
        for (int k = 0; k < G_END; k++) {
            if (next(k) == g) {
                return k;
            }
        }
        return -1;
    }

    /** Places drawn by the document's words; answers how many POINTS come of them, and G in g[0]. */
    private static int come(int n, int w, int[] g, Set<String> taken, int free) {
        int count = 0;
        for (int k = 0; k < n; k++) {
            g[0] = next(g[0]);
            int x = g[0] % (2 * w + 1) - w;
            g[0] = next(g[0]);
            int y = g[0] % (2 * w + 1) - w;
            if (count < free && taken.add(x + " " + y)) {
                count++;
            }
        }
        return count;
    }

    private static void drawnHowMany() {
        Due.says(7, "DRAWN, n POINTS (1 .. 20)");
        SquareMesh m = new SquareMesh();
        Due.is("drawn(1, 1000)", m.drawn(1, 1000), 1);
        Due.is("drawn(0, 1000)", m.drawn(0, 1000), -1);
        Due.is("drawn(20, 1000)", m.drawn(20, 1000), 20);
        Due.is("drawn(21, 1000)", m.drawn(21, 1000), -1);
        Due.is("is(0)", m.is(0), 25);
        Due.says(7, "DRAWN: how many POINTS came.");
        for (int w : new int[] {1, 2, 3, 10, 1000}) {
            for (int g : new int[] {0, 313, 5000, 30046}) {
                SquareMesh other = new SquareMesh();
                other.tell(g);
                int[] own = {g};
                Due.is("drawn(20, " + w + ") by " + g, other.drawn(20, w), come(20, w, own, new TreeSet<>(), 36));
                Due.is("G behind it", other.is(6), own[0]);
            }
        }
    }

    private static void drawnWithin() {
        Due.says(7, "within w (1 .. 1000) of the middle");
        SquareMesh m = new SquareMesh();
        Due.is("w 0", m.drawn(1, 0), -1);
        Due.is("w 1", m.drawn(1, 1), 1);
        Due.is("w 1000", m.drawn(1, 1000), 1);
        Due.is("w 1001", m.drawn(1, 1001), -1);
        Due.says(7, "its X is G mod (2 w and 1) less w; then likewise (G goes on) its Y");
        // G 0 and 641, G 2000 and 2056, G 2 and 2295
        drawnAt(0, 1000, -1000, -359);
        drawnAt(2000, 1000, 1000, -945);
        drawnAt(0, 1, -1, 1);
        drawnAt(2, 1, 1, -1);
        for (int wanted = 0; wanted < 21; wanted += 20) {
            int g = aheadOfY(wanted, 21);
            SquareMesh low = new SquareMesh();
            low.tell(g);
            low.drawn(1, 10);
            Due.is("Y by G " + g, low.of(4, 1), wanted - 10);
            Due.is("X by G " + g, low.of(4, 0), next(g) % 21 - 10);
        }
        SquareMesh border = new SquareMesh();
        border.tell(ahead(0));
        border.drawn(1, 1000);
        Due.is("TOLD on the BORDER", border.is(4), 5);
    }

    private static int aheadOfY(int rest, int by) {
        for (int g = 0; g < G_END; g++) {
            if (next(next(g)) % by == rest) {
                return g;
            }
        }
        return -1;
    }

    private static void drawnAt(int g, int w, int x, int y) {
        SquareMesh m = new SquareMesh();
        m.tell(ahead(g));
        Due.is("drawn(1, " + w + ") to G " + g, m.drawn(1, w), 1);
        Due.is("X", m.of(4, 0), x);
        Due.is("Y", m.of(4, 1), y);
    }

    private static void gGoesOn() {
        Due.says(7, "G (at first 313) is (G * 827 + 641) mod 30047");
        SquareMesh m = new SquareMesh();
        Due.is("G", m.is(6), 313);
        m.drawn(1, 1000);
        Due.is("X by 19116", m.of(4, 0), 107);
        Due.is("Y by 4851", m.of(4, 1), -151);
        Due.is("G then", m.is(6), 4851);
        m.tell(30046);
        m.drawn(1, 1000);
        // 30046 is 1 less than 0: 641 - 827, then 641 - 186 * 827
        Due.is("G behind the greatest", m.is(6), 27101);
        m.tell(0);
        m.drawn(1, 1000);
        Due.is("G behind the least", m.is(6), 19949);
    }

    private static void drawnWhereOneIs() {
        Due.says(7, "is a POINT there, or none free, that is none");
        SquareMesh m = new SquareMesh();
        m.drawn(1, 1);
        m.tell(313);
        Due.is("where one is", m.drawn(1, 1), 0);
        Due.is("G goes on", m.is(6), 4851);
        Due.is("is(0)", m.is(0), 5);
        m.tell(313);
        int[] g = {313};
        Set<String> taken = new TreeSet<>();
        come(1, 1, g, taken, 1);
        g[0] = 313;
        Due.is("on behind it", m.drawn(20, 1), come(20, 1, g, taken, 35));
        Due.is("G behind all", m.is(6), g[0]);
    }

    private static void drawnWhenNoneIsFree() {
        Due.says(7, "or none free, that is none");
        SquareMesh m = Meshes.full();
        int steps = m.steps();
        int[] g = {313};
        come(20, 1000, g, new TreeSet<>(), 0);
        Due.is("drawn(20, 1000)", m.drawn(20, 1000), 0);
        Due.is("G behind all", m.is(6), g[0]);
        Due.is("steps()", m.steps(), steps);
        m.drop(17);
        m.tell(313);
        Due.is("one is free", m.drawn(20, 1000), 1);
        Due.is("X of it", m.of(17, 0), 107);
        Due.is("G behind all then", m.is(6), g[0]);
    }

    private static void drawnRefused() {
        Due.says(7, "NONE for others.");
        SquareMesh m = Meshes.four();
        m.tell(77);
        String state = Meshes.state(m);
        for (int n : new int[] {0, -1, 21, 22, MIN, MAX}) {
            Due.is("drawn(" + n + ", 10)", m.drawn(n, 10), -1);
        }
        for (int w : new int[] {0, -1, 1001, 1 << 30, 1 << 31, MAX}) {
            Due.is("drawn(1, " + w + ")", m.drawn(1, w), -1);
        }
        Due.same("nothing is changed, nor G", Meshes.state(m), state);
    }

    private static void heightRange() {
        Due.says(8, "Each has a HEIGHT (-9999 .. 9999; 0, as it is TOLD");
        SquareMesh m = Meshes.four();
        for (int p = 0; p < 8; p++) {
            Due.is("as it is TOLD", m.of(p, 5), 0);
        }
        Due.is("height(0, 9999)", m.height(0, 9999), true);
        Due.is("height(4, -9999)", m.height(4, -9999), true);
        Due.is("height(7, 10000)", m.height(7, 10000), false);
        Due.is("height(7, -10000)", m.height(7, -10000), false);
        Due.is("the greatest", m.of(0, 5), 9999);
        Due.is("the least", m.of(4, 5), -9999);
        m.drop(4);
        m.point(1, 1);
        Due.is("TOLD again", m.of(4, 5), 0);
        m.height(4, 7);
        m.drop(4);
        m.drawn(1, 1000);
        Due.is("DRAWN", m.of(4, 5), 0);
        m.height(4, 7);
        m.drop(4);
        m.refine(1);
        Due.is("REFINED", m.of(4, 5), 0);
        Due.says(8, "A HEIGHT: true.");
        Due.is("height(5, 0)", m.height(5, 0), true);
        Due.is("the same again", m.height(5, 0), true);
        SquareMesh full = Meshes.full();
        Due.is("of the last POINT", full.height(39, -1), true);
        Due.is("it", full.of(39, 5), -1);
    }

    private static void heightRefused() {
        Due.says(8, "False for others.");
        SquareMesh m = Meshes.four();
        String state = Meshes.state(m);
        for (int p : Meshes.noPoints(8)) {
            Due.is("height(" + p + ", 1)", m.height(p, 1), false);
        }
        for (int h : new int[] {10000, -10000, 1 << 16, MIN, MIN + 1, MAX}) {
            Due.is("height(4, " + h + ")", m.height(4, h), false);
        }
        Due.same("nothing is changed", Meshes.state(m), state);
    }

    private static void refinedHowMany() {
        Due.says(9, "REFINED, n (1 .. 10): n times");
        Due.is("refine(1)", new SquareMesh().refine(1), 1);
        Due.is("refine(10)", new SquareMesh().refine(10), 10);
        Due.is("refine(0)", new SquareMesh().refine(0), -1);
        Due.is("refine(11)", new SquareMesh().refine(11), -1);
        SquareMesh once = new SquareMesh();
        SquareMesh one = new SquareMesh();
        once.refine(7);
        for (int k = 0; k < 7; k++) {
            one.refine(1);
        }
        Due.same("seven times one", Meshes.shape(one), Meshes.shape(once));
        Due.is("is(0)", once.is(0), 11);
        Due.is("one STEP", once.steps(), 1);
        Due.says(9, "REFINED: how many POINTS came.");
        Due.is("refine(3)", once.refine(3), 3);
    }

    private static void refinedMiddle() {
        Due.says(9, "the middle (X and Y by 2, downward) of the longest EDGE of the THINNEST TRIANGLE");
        refinedBetween(0, 0, 101, 1, 50, 1, 50, 0);
        refinedBetween(0, 0, -101, -1, -50, 0, -51, -1);
        refinedBetween(-51, 0, 50, 1, 0, 1, -1, 0);
        refinedBetween(0, -51, 1, 50, 1, 0, 0, -1);
        refinedBetween(-1, 900, -100, 901, -50, 901, -51, 900);
    }

    // A thin triangle: its longest edge from the first place to the second one; then the place that is due.
    private static void refinedBetween(int ax, int ay, int bx, int by, int cx, int cy, int x, int y) {
        SquareMesh m = new SquareMesh();
        m.point(ax, ay);
        m.point(bx, by);
        m.point(cx, cy);
        m.fix(4, 5);
        Due.is("refine(1) of " + ax + " " + ay + ", " + bx + " " + by, m.refine(1), 1);
        Due.is("X", m.of(7, 0), x);
        Due.is("Y", m.of(7, 1), y);
    }

    private static void refinedOfLikeOnes() {
        Due.says(9, "(of like ones from its first corner on)");
        // the peak at (0, 0) is the third corner, the first, the second
        refinedPeak(-10, -1000, 10, -1000, 0, 0, 5);
        refinedPeak(0, 0, -10, -1000, 10, -1000, -5);
        refinedPeak(10, -1000, 0, 0, -10, -1000, 5);
        Due.says(9, "the THINNEST TRIANGLE");
        SquareMesh m = Meshes.middle();
        m.refine(1);
        Due.is("of four like ones the first", m.at(0, -1000), 5);
    }

    private static void refinedPeak(int ax, int ay, int bx, int by, int cx, int cy, int x) {
        SquareMesh m = new SquareMesh();
        m.point(ax, ay);
        m.point(bx, by);
        m.point(cx, cy);
        m.refine(1);
        Due.is("X", m.of(7, 0), x);
        Due.is("Y", m.of(7, 1), -500);
    }

    private static void refinedToTheEnd() {
        Due.says(9, "is a POINT there, or none free, that is all");
        SquareMesh there = new SquareMesh();
        there.point(0, 0);
        there.point(101, 1);
        there.point(50, 0);
        there.fix(4, 5);
        Due.is("a POINT there", there.refine(10), 0);
        Due.is("is(0)", there.is(0), 7);
        SquareMesh full = Meshes.full();
        Due.is("none free", full.refine(10), 0);
        full.drop(11);
        Due.is("one free", full.refine(10), 1);
        Due.is("it has the free number", full.of(11, 0) != -100000, true);
        full.drop(4);
        full.drop(9);
        Due.is("two free", full.refine(2), 2);
    }

    private static void refineRefused() {
        Due.says(9, "NONE for others.");
        SquareMesh m = Meshes.four();
        String state = Meshes.state(m);
        for (int n : new int[] {0, -1, 11, 12, MIN, MAX}) {
            Due.is("refine(" + n + ")", m.refine(n), -1);
        }
        Due.same("nothing is changed", Meshes.state(m), state);
    }

    private static void smoothedByNumbers() {
        Due.says(10, "each POINT that may be TAKEN OUT (by numbers) is MOVED to the mean X and the mean Y of its STAR");
        // 4 goes ahead, from 0, 3 and 5; then 5 from 0, 1, 2, 3 and where 4 is then
        SquareMesh m = new SquareMesh();
        m.point(-300, 10);
        m.point(300, 10);
        Due.is("smooth()", m.smooth(), 2);
        Due.is("X of 4", m.of(4, 0), -567);
        Due.is("Y of 4", m.of(4, 1), 3);
        Due.is("X of 5", m.of(5, 0), -114);
        Due.is("Y of 5", m.of(5, 1), 0);
        Due.is("one STEP", m.steps(), 3);
        // the other number first
        SquareMesh turned = new SquareMesh();
        turned.point(300, 10);
        turned.point(-300, 10);
        turned.smooth();
        // 0, 1, 2, 3, 5: X -300 by 5, Y 10 by 5; then 0, 3 and 4
        Due.is("X of 4, turned", turned.of(4, 0), -60);
        Due.is("Y of 4, turned", turned.of(4, 1), 2);
        Due.is("X of 5, turned", turned.of(5, 0), -687);
        Due.is("Y of 5, turned", turned.of(5, 1), 0);
    }

    private static void smoothedDownward() {
        Due.says(10, "(downward each)");
        SquareMesh above = new SquareMesh();
        above.point(999, 1000);
        above.point(500, 500);
        above.smooth();
        // 0, 1, 2, 4, 3: X 999 by 5, Y 1000 by 5
        Due.is("X", above.of(5, 0), 199);
        Due.is("Y", above.of(5, 1), 200);
        SquareMesh below = new SquareMesh();
        below.point(-999, -1000);
        below.point(0, 0);
        below.smooth();
        // X -999 by 5, Y -1000 by 5
        Due.is("X below 0", below.of(5, 0), -200);
        Due.is("Y of -1000 by 5", below.of(5, 1), -200);
        SquareMesh low = new SquareMesh();
        low.point(-1000, -999);
        low.point(0, 0);
        low.smooth();
        Due.is("X of -1000 by 5", low.of(5, 0), -200);
        Due.is("Y below 0", low.of(5, 1), -200);
    }

    private static void smoothedWhich() {
        Due.says(10, "SMOOTHED: how many were MOVED.");
        Due.is("none there", new SquareMesh().smooth(), 0);
        SquareMesh m = new SquareMesh();
        m.point(300, 300);
        m.point(1000, 0);
        m.fix(4, 2);
        Due.is("none that may be TAKEN OUT", m.smooth(), 0);
        Due.is("at a FIXED EDGE", m.of(4, 0), 300);
        Due.is("on the BORDER", m.of(5, 1), 0);
        m.free(4, 2);
        Due.is("the one that may be", m.smooth(), 1);
        // 6 has 4, 5 and 7: Y 2 by 3, downward on the FIXED EDGE
        SquareMesh onto = Meshes.told(-100, 0, 100, 0, 0, 1, 0, 2);
        onto.fix(4, 5);
        onto.smooth();
        Due.is("onto a FIXED EDGE", onto.at(0, 0), 6);
        Due.is("that is two then", onto.isFixed(4, 6) && onto.isFixed(6, 5), true);
        Due.is("and it may not be any more", onto.drop(6), false);
        SquareMesh full = Meshes.full();
        full.move(39, 999, 999);
        full.smooth();
        Due.is("the last POINT goes, too", full.at(999, 999), -1);
    }

    private static void smoothedWhereOneIs() {
        Due.says(10, "if no POINT is there");
        SquareMesh own = Meshes.middle();
        Due.is("it is there itself", own.smooth(), 0);
        Due.is("it stays", own.at(0, 0), 4);
        // 4 has 0, 1, 2, 3 and 5: X -1 by 5, where 5 is; 5 has 0, 3 and 4: X -2000 by 3
        SquareMesh other = new SquareMesh();
        other.point(0, 0);
        other.point(-1, 0);
        Due.is("another one is there", other.smooth(), 1);
        Due.is("4 stays", other.at(0, 0), 4);
        Due.is("5 goes", other.at(-667, 0), 5);
    }

    private static void holes() {
        Due.says(11, "HOLES (8 at most; at first none): places in the square");
        SquareMesh m = new SquareMesh();
        Due.is("at first", m.is(8), 0);
        Due.is("at first none HOLLOW", m.is(9), 0);
        int[][] places = {{-1000, -1000}, {1000, 1000}, {-1000, 1000}, {1000, -1000}, {0, 0}, {0, 0}, {1000, 3}, {-1, -2}};
        for (int k = 0; k < 8; k++) {
            Due.is("hole " + (k + 1), m.hole(places[k][0], places[k][1]), k + 1);
        }
        Due.is("a ninth", m.hole(5, 5), -1);
        Due.is("is(8)", m.is(8), 8);
        Due.says(11, "A HOLE: how many there are.");
        m.fill();
        Due.is("the eighth again", m.hole(5, 5), 8);
    }

    private static void holeRefused() {
        Due.says(11, "NONE for others (out of the square), or if there are 8.");
        SquareMesh m = Meshes.halves();
        m.hole(500, 500);
        String state = Meshes.state(m);
        for (int[] place : Meshes.OUT) {
            Due.is("hole(" + place[0] + ", " + place[1] + ")", m.hole(place[0], place[1]), -1);
        }
        Due.same("nothing is changed", Meshes.state(m), state);
        for (int k = 2; k <= 8; k++) {
            m.hole(500, 500);
        }
        String eight = Meshes.state(m);
        Due.is("if there are 8", m.hole(-500, -500), -1);
        Due.same("nothing is changed then", Meshes.state(m), eight);
    }

    private static void filled() {
        Due.says(12, "NONE: there is none.");
        SquareMesh m = Meshes.halves();
        Due.is("none yet", m.fill(), -1);
        Due.is("no STEP", m.steps(), 3);
        m.hole(-500, -500);
        m.hole(500, 500);
        Due.says(12, "The latest HOLE told is filled: how many there are then.");
        Due.is("fill()", m.fill(), 1);
        Due.is("the latest one's REGION", m.ofRegion(1, 2), 0);
        Due.is("the other one's REGION", m.ofRegion(0, 2), 1);
        Due.is("the last", m.fill(), 0);
        Due.is("none is HOLLOW", m.is(9), 0);
        Due.says(12, "there is none");
        Due.is("no more", m.fill(), -1);
        Due.is("is(8)", m.is(8), 0);
    }

    private static void told() {
        Due.says(13, "G is told (0 .. 30046): true.");
        SquareMesh m = new SquareMesh();
        Due.is("tell(0)", m.tell(0), true);
        Due.is("G", m.is(6), 0);
        Due.is("tell(30046)", m.tell(30046), true);
        Due.is("G then", m.is(6), 30046);
        Due.says(13, "False for others.");
        for (int x : new int[] {-1, 30047, 30048, 1 << 16, MIN, MAX}) {
            Due.is("tell(" + x + ")", m.tell(x), false);
        }
        Due.is("G stays", m.is(6), 30046);
        Due.says(13, "It is no STEP.");
        Due.is("steps()", m.steps(), 0);
        Due.is("undo()", m.undo(), -1);
        Due.is("G still", m.is(6), 30046);
        m.point(1, 1);
        m.tell(5);
        Due.is("one STEP", m.steps(), 1);
    }
}
