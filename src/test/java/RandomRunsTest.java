import java.lang.reflect.Method;
import java.util.ArrayList;
import java.util.HashMap;
import java.util.List;
import java.util.Map;
import java.util.Random;

/**
 * Runs of calls by a fixed seed on the class and on the Model, each answer compared; places lie on
 * grids of several steps, so that points often share lines and circles.
 */
public final class RandomRunsTest {
    // name, then the kinds of its arguments; how often, behind the colon
    private static final String[] CHANGES = {
        "point xy:30", "drop p:10", "move pxy:14", "fix pp:26", "free f:8", "drawn nw:3", "height ph:10",
        "refine n:3", "smooth :2", "hole xy:5", "fill :2", "tell g:2", "undo :6", "image :2", "back :1"};
    // Most edges are fixed then, in any shape: walks go astray, and there are many regions.
    private static final String[] FIXES = {
        "point xy:20", "move pxy:4", "fix pp:150", "free f:5", "drawn nw:2", "height ph:5", "hole xy:5", "fill :2",
        "undo :3", "image :1", "back :1"};
    private static final String[] QUESTIONS = {
        "is w", "of pw", "at xy", "corner tk", "beyond tk", "area t", "triangle ppp", "triangle T", "isEdge pp",
        "isFixed pp", "isFixed f", "in xy", "lies xy", "walk txyk", "star pk", "star ps", "ring pk", "crossed pp",
        "sees pp", "seen p", "region t", "ofRegion kk", "ofRegion 0k", "nearest xy", "length k", "busiest k", "tree sk",
        "tree -k", "way pps", "way pp-", "bent k", "bent -", "thinnest ", "circle txy", "shortest pps",
        "shortest pp-", "colour p", "centre k", "cut xyxy", "fresh ", "firm ", "heightAt xy", "level h",
        "drain pk", "volume ", "passage xyxys", "passage xyxy-", "hull s", "hull -", "wouldPoint xy",
        "wouldDrop p", "wouldFix pp", "wouldFree f", "wouldFree pp", "mean ", "steps ", "corner sk", "circle sxy"};

    private static final Map<String, Method> OF_CLASS = methods(SquareMesh.class);
    private static final Map<String, Method> OF_MODEL = methods(Model.class);

    private final Random random;
    private final int step;
    private final int reach;
    private final String[] changes;
    private final int oneOddIn;
    private final SquareMesh mesh = new SquareMesh();
    private final Model model = new Model();
    private final List<String> told = new ArrayList<>();

    private RandomRunsTest(long seed, int step, int reach, String[] changes, int oneOddIn) {
        this.changes = changes;
        this.oneOddIn = oneOddIn;
        this.random = new Random(seed);
        this.step = step;
        this.reach = reach;
    }

    private static Map<String, Method> methods(Class<?> of) {
        Map<String, Method> found = new HashMap<>();
        for (Method m : of.getDeclaredMethods()) {
            if (java.lang.reflect.Modifier.isPublic(m.getModifiers())) {
                m.setAccessible(true);
                found.put(m.getName(), m);
            }
        }
        return found;
    }

    public static void main(String[] args) throws Exception {
        int runs = args.length > 0 ? Integer.parseInt(args[0]) : 60;
        int first = args.length > 1 ? Integer.parseInt(args[1]) : 0;
        int[][] grids = {{1, 1000}, {500, 2}, {250, 4}, {200, 5}, {100, 10}, {1, 3}, {1, 5}, {125, 8}, {333, 3},
            {1, 30}, {50, 20}, {25, 4}};
        for (int run = first; run < first + runs; run++) {
            int[] grid = grids[run % grids.length];
            String[] changes = run % 5 == 4 ? FIXES : CHANGES;
            // in some runs every fourth argument is one that is refused, or the last that isn't
            int oneOddIn = run % 6 == 5 ? 4 : 40;
            if (!new RandomRunsTest(run * 7919L + 17, grid[0], grid[1], changes, oneOddIn).go(run)) {
                break;
            }
        }
        Due.end("RandomRunsTest");
    }

    private boolean go(int run) throws Exception {
        int changesOf100 = 20 + random.nextInt(40);
        for (int call = 0; call < 511; call++) {
            String[] list = random.nextInt(100) < changesOf100 ? changes : QUESTIONS;
            if (!one(run, pick(list))) {
                System.out.println(String.join("\n", told));
                return false;
            }
        }
        return true;
    }

    private String pick(String[] list) {
        if (list == QUESTIONS) {
            return list[random.nextInt(list.length)];
        }
        int all = 0;
        for (String s : list) {
            all += Integer.parseInt(s.substring(s.indexOf(':') + 1));
        }
        int at = random.nextInt(all);
        for (String s : list) {
            at -= Integer.parseInt(s.substring(s.indexOf(':') + 1));
            if (at < 0) {
                return s.substring(0, s.indexOf(':'));
            }
        }
        return list[0];
    }

    private boolean one(int run, String what) throws Exception {
        String name = what.substring(0, what.indexOf(' '));
        List<Object> args = new ArrayList<>();
        for (char kind : what.substring(what.indexOf(' ') + 1).toCharArray()) {
            add(kind, args);
        }
        String call = name + args;
        told.add(call);
        Object got = OF_CLASS.get(name).invoke(mesh, args.toArray());
        Object want = OF_MODEL.get(name).invoke(model, args.toArray());
        Due.is("run " + run + ": " + call, number(got), number(want));
        return number(got) == number(want);
    }

    private static long number(Object answer) {
        return answer instanceof Boolean ? ((Boolean) answer ? 1L : 0L) : ((Number) answer).longValue();
    }

    private void add(char kind, List<Object> args) {
        boolean odd = random.nextInt(oneOddIn) == 0;
        switch (kind) {
            case 'p': args.add(odd ? oddOne() : point()); break;
            case 'x': args.add(odd ? oddOne() : coordinate()); break;
            case 'y': addY(args, odd); break;
            case 'h': args.add(odd ? oddOne() : random.nextInt(5) == 0 ? random.nextInt(19999) - 9999
                    : random.nextInt(9) - 4); break;
            case 'w': args.add(odd ? oddOne() : random.nextInt(14)); break;
            case 'n': args.add(odd ? oddOne() : 1 + random.nextInt(4)); break;
            case 'g': args.add(odd ? oddOne() : random.nextInt(30047)); break;
            case 't': args.add(odd ? oddOne() : random.nextInt(model.triangles())); break;
            case 'k': args.add(odd ? oddOne() : random.nextInt(5)); break;
            case 's': args.add(odd ? oddOne() : random.nextInt(8)); break;
            case '0': args.add(0); break;
            case '-': args.add(-1); break;
            case 'f': addFixed(args); break;
            default: addCorners(args); break;
        }
    }

    private int oddOne() {
        int[] odd = {-1, -2, 0, 4, 10, 11, 20, 21, 39, 40, 64, 1000, 1001, -1000, -1001, 9999, 10000, -9999, -10000,
            30046, 30047, 100000, Integer.MAX_VALUE, Integer.MIN_VALUE, 2, 3, 1 << 20, 68, -60, 12, 13, 5, 6, 7, 8,
            73, 74, Integer.MIN_VALUE + 4, 1, 999, -999};
        return odd[random.nextInt(odd.length)];
    }

    private int point() {
        List<Integer> all = model.numbers();
        return random.nextInt(30) == 0 ? random.nextInt(40) : all.get(random.nextInt(all.size()));
    }

    private int coordinate() {
        if (random.nextInt(25) == 0) {
            return random.nextBoolean() ? 1000 : -1000;
        }
        return (random.nextInt(2 * reach + 1) - reach) * step;
    }

    // A y may go with the x ahead of it: the middle of an edge, or the place of a point.
    private void addY(List<Object> args, boolean odd) {
        int turn = random.nextInt(12);
        if (turn == 0) {
            int[] p = model.placeOf(point());
            int[] q = model.placeOf(model.numbers().get(random.nextInt(model.numbers().size())));
            if (p != null) {
                args.set(args.size() - 1, (p[0] + q[0]) / 2);
                args.add((p[1] + q[1]) / 2);
                return;
            }
        }
        args.add(odd ? oddOne() : coordinate());
    }

    private void addFixed(List<Object> args) {
        List<Integer> all = model.fixedOnes();
        int e = all.get(random.nextInt(all.size()));
        boolean turned = random.nextBoolean();
        args.add(turned ? e % 100 : e / 100);
        args.add(turned ? e / 100 : e % 100);
    }

    private void addCorners(List<Object> args) {
        int t = random.nextInt(model.triangles());
        int from = random.nextInt(3);
        int by = 1 + random.nextInt(2);
        for (int k = 0; k < 3; k++) {
            args.add(model.corner(t, (from + k * by) % 3));
        }
    }
}
