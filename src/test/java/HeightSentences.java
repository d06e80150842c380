/** What the document says of heights at places, levels, drains and the volume (promises 48 to 51). */
final class HeightSentences {
    private static final int MIN = Meshes.MIN;
    private static final int MAX = Meshes.MAX;

    private HeightSentences() {
    }

    static void all() {
        heightAt();
        heightAtDownward();
        heightAtOut();
        level();
        drain();
        drainOfLikeOnes();
        drainRefused();
        volume();
    }

    private static SquareMesh heights(SquareMesh m, int... heights) {
        for (int p = 0; p < heights.length; p++) {
            m.height(p, heights[p]);
        }
        return m;
    }

    private static void heightAt() {
        Due.says(48, "HEIGHT AT a place: of the TRIANGLE in which it is IN the corners' HEIGHTS, each times the DOUBLE AREA of "
            + "the place and the EDGE opposite, together, by its DOUBLE AREA (downward).");
        SquareMesh m = heights(Meshes.middle(), 1000, 2000, 3000, 4000, 0);
        for (int p = 0; p < 4; p++) {
            Due.is("at " + p, m.heightAt(m.of(p, 0), m.of(p, 1)), 1000 * (p + 1));
        }
        Due.is("at 4", m.heightAt(0, 0), 0);
        Due.is("between 0 and 1", m.heightAt(0, -1000), 1500);
        Due.is("between 2 and 4", m.heightAt(500, 500), 1500);
        Due.is("within (0, 1, 4)", m.heightAt(0, -500), 750);
        Due.is("within (0, 4, 3)", m.heightAt(-500, 0), 1250);
        Due.is("within (1, 2, 4)", m.heightAt(500, 0), 1250);
        Due.is("within (2, 3, 4)", m.heightAt(0, 500), 1750);
        Due.says(48, "HEIGHT AT a place.");
        SquareMesh far = heights(new SquareMesh(), 9999, 9999, 9999, 9999);
        Due.is("the greatest", far.heightAt(3, -7), 9999);
        Due.is("the least", heights(new SquareMesh(), -9999, -9999, -9999, -9999).heightAt(-7, 3), -9999);
        Due.is("of a new one", new SquareMesh().heightAt(0, 0), 0);
    }

    private static void heightAtDownward() {
        Due.says(48, "together, by its DOUBLE AREA (downward)");
        // on the side from 0 to 1: 1 over 2000 places
        SquareMesh up = heights(new SquareMesh(), 0, 1, 1, 0);
        Due.is("0 and a half", up.heightAt(0, -1000), 0);
        Due.is("nearly 1", up.heightAt(999, -1000), 0);
        Due.is("just 1", up.heightAt(1000, -1000), 1);
        SquareMesh down = heights(new SquareMesh(), 0, -1, -1, 0);
        Due.is("just 0", down.heightAt(-1000, -1000), 0);
        Due.is("a little below 0", down.heightAt(-999, -1000), -1);
        Due.is("half below 0", down.heightAt(0, -1000), -1);
        Due.is("just -1", down.heightAt(1000, -1000), -1);
        // 4 is 1 above the side: (0, 1, 4) of 2000, 1999 and -1 of it
        SquareMesh low = new SquareMesh();
        low.point(0, -999);
        Due.is("1999 of 2000", heights(low, 0, 1, 0, 0, 0).heightAt(999, -1000), 0);
        Due.is("-1 of 2000", heights(low, 0, -1, 0, 0, 0).heightAt(-999, -1000), -1);
        SquareMesh steep = heights(new SquareMesh(), -9999, 9999, 0, 0);
        Due.is("from the least up", steep.heightAt(-999, -1000), -9990);
        Due.is("to the greatest", steep.heightAt(999, -1000), 9989);
    }

    private static void heightAtOut() {
        Due.says(48, "-100000: it is out of the square.");
        SquareMesh m = heights(Meshes.middle(), 1, 2, 3, 4, 5);
        for (int[] place : Meshes.OUT) {
            Due.is("heightAt(" + place[0] + ", " + place[1] + ")", m.heightAt(place[0], place[1]), -100000);
        }
    }

    private static void level() {
        Due.says(49, "LEVEL h: EDGES with one end above h, the other one not.");
        SquareMesh m = heights(Meshes.middle(), 0, 0, 0, 0, 10);
        Due.is("as high as the one", m.level(10), 0);
        Due.is("just below it", m.level(9), 4);
        Due.is("as high as the others", m.level(0), 4);
        Due.is("just below them", m.level(-1), 0);
        m.height(0, -1);
        // 0 to 1, 3 and 4
        Due.is("between 0 and all others", m.level(-1), 3);
        Due.is("below all", m.level(-2), 0);
        Due.says(49, "LEVEL: how many.");
        for (int h : new int[] {10000, -10000, MIN, MIN + 1, MAX, MAX - 1}) {
            Due.is("level(" + h + ")", m.level(h), 0);
        }
        m.height(1, 9999);
        m.height(2, -9999);
        Due.is("just below the greatest", m.level(9998), 3);
        Due.is("the greatest", m.level(9999), 0);
        Due.is("the least", m.level(-9999), 3);
        Due.is("just below the least", m.level(-10000), 0);
        Due.is("of a new one", new SquareMesh().level(0), 0);
    }

    private static void drain() {
        Due.says(50, "DRAIN of a POINT: to the one of its STAR with the least HEIGHT (of like ones the least number), if that is "
            + "below its own; and so on.");
        SquareMesh m = heights(Meshes.middle(), 5, 5, 5, 5, 5);
        Due.is("as high as all others", m.drain(4, 0), 4);
        Due.is("no EDGE", m.drain(4, 1), 0);
        m.height(4, 4);
        Due.is("below all others", m.drain(4, 0), 4);
        Due.is("just below its own", m.drain(3, 0), 4);
        Due.is("one EDGE", m.drain(3, 1), 1);
        m.height(2, 3);
        Due.is("and so on", m.drain(0, 0), 2);
        Due.is("two EDGES", m.drain(0, 1), 2);
        Due.is("to the least at once", m.drain(1, 1), 1);
        Due.is("the least itself", m.drain(2, 1), 0);
        Due.says(50, "DRAIN: where it ends (what 0), over how many EDGES (1).");
        // a row of 36 POINTS in the middle, each lower than the one ahead of it
        SquareMesh row = new SquareMesh();
        for (int k = 0; k < 36; k++) {
            row.point(k, 0);
            row.height(4 + k, -k - 1);
        }
        Due.is("of the first", row.drain(4, 0), 39);
        Due.is("over 35 EDGES", row.drain(4, 1), 35);
        Due.is("of the last", row.drain(39, 1), 0);
    }

    private static void drainOfLikeOnes() {
        Due.says(50, "(of like ones the least number)");
        SquareMesh m = heights(Meshes.middle(), 0, 0, 0, 0, 9);
        Due.is("of four", m.drain(4, 0), 0);
        m.height(0, 1);
        Due.is("of three", m.drain(4, 0), 1);
        m.height(1, 1);
        Due.is("of two", m.drain(4, 0), 2);
        m.height(3, -1);
        Due.is("the last alone", m.drain(4, 0), 3);
        Due.says(50, "if that is below its own");
        m.height(3, 9);
        m.height(2, 9);
        m.height(1, 9);
        m.height(0, 9);
        Due.is("of like HEIGHT, not below", m.drain(4, 1), 0);
        m.height(0, 8);
        Due.is("below by one", m.drain(4, 0), 0);
    }

    private static void drainRefused() {
        Due.says(50, "NONE for others.");
        SquareMesh m = heights(Meshes.middle(), 1, 2, 3, 4, 5);
        for (int p : Meshes.noPoints(5)) {
            Due.is("drain(" + p + ", 0)", m.drain(p, 0), -1);
            Due.is("drain(" + p + ", 1)", m.drain(p, 1), -1);
        }
        for (int what : new int[] {2, 3, -1, MIN, MAX}) {
            Due.is("drain(4, " + what + ")", m.drain(4, what), -1);
        }
    }

    private static void volume() {
        Due.says(51, "VOLUME: of all TRIANGLES DOUBLE AREA times the corners' HEIGHTS together, together.");
        Due.is("of a new one", new SquareMesh().volume(), 0);
        Due.is("the greatest", heights(new SquareMesh(), 9999, 9999, 9999, 9999).volume(), 239976000000L);
        Due.is("the least", heights(new SquareMesh(), -9999, -9999, -9999, -9999).volume(), -239976000000L);
        Due.is("as much above 0 as below", heights(new SquareMesh(), 9999, 7, -9999, -7).volume(), 0);
        SquareMesh m = heights(Meshes.middle(), 1, 10, 100, 1000, -5);
        // 2000000 times 6, 996, 105 and 1095
        Due.is("of four", m.volume(), 2000000L * (6 + 996 + 105 + 1095));
        Due.says(51, "VOLUME.");
        SquareMesh full = Meshes.full();
        full.height(39, 1);
        long corners = 0;
        for (int t = 0; t < 74; t++) {
            boolean has = full.corner(t, 0) == 39 || full.corner(t, 1) == 39 || full.corner(t, 2) == 39;
            corners += has ? full.area(t) : 0;
        }
        Due.is("round the last POINT", full.volume(), corners);
    }
}
