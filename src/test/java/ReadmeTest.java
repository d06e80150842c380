import java.io.IOException;
import java.lang.reflect.Method;
import java.lang.reflect.Modifier;
import java.nio.file.Files;
import java.nio.file.Path;

/** The example of README.md gives what its comments say, and the page names every call and every test. */
public final class ReadmeTest {
    private static final Path PAGE = Path.of("README.md");
    private static final Path OWN = Path.of("src/test/java/ReadmeTest.java");
    private static final Path TESTS = Path.of("src/test/java");

    private ReadmeTest() {
    }

    public static void main(String[] args) throws IOException {
        String page = Files.readString(PAGE);
        example();
        lines(page);
        calls(page);
        tests(page);
        Due.end("ReadmeTest");
    }

    private static void example() {
        SquareMesh mesh = new SquareMesh();
        Due.is("the corners of the square", mesh.is(0), 4);
        Due.is("two triangles", mesh.is(1), 2);
        int middle = mesh.point(100, 100);
        Due.is("middle", middle, 4);
        boolean stays = mesh.fix(0, middle);
        Due.is("stays", stays, true);
        int refused = mesh.point(1001, 0);
        Due.is("refused", refused, SquareMesh.NONE);
        int corner = mesh.corner(mesh.in(500, -500), 2);
        Due.is("corner", corner, 4);
        int edges = mesh.way(1, 3, SquareMesh.NONE);
        Due.is("edges", edges, 2);
        int between = mesh.way(1, 3, 1);
        Due.is("between", between, 0);
        mesh.image();
        String kept = Meshes.state(mesh);
        int came = mesh.drawn(10, 500);
        Due.is("came", came, 10);
        int left = mesh.undo();
        Due.is("left", left, 2);
        mesh.drop(middle);
        Due.is("the point is there yet", mesh.at(100, 100), middle);
        mesh.back();
        Due.same("all is as it was", Meshes.state(mesh), kept);
    }

    // What the page shows is what is compiled here, but for its comments.
    private static void lines(String page) throws IOException {
        String own = Files.readString(OWN);
        int from = page.indexOf("```java\n") + 8;
        String[] shown = page.substring(from, page.indexOf("```", from)).split("\n");
        Due.is("lines of the example", shown.length > 5, true);
        for (String line : shown) {
            String code = line.replaceAll("\\s*//.*", "");
            Due.is("compiled: " + code, own.contains("        " + code + "\n"), true);
        }
    }

    private static void calls(String page) {
        for (Method m : SquareMesh.class.getDeclaredMethods()) {
            if (Modifier.isPublic(m.getModifiers())) {
                Due.is("the page names " + m.getName(), page.contains("`" + m.getName() + "`"), true);
            }
        }
    }

    private static void tests(String page) throws IOException {
        Due.is("the page names .ci/run", page.contains("`.ci/run`"), true);
        try (var files = Files.list(TESTS)) {
            for (Path test : files.filter(f -> f.toString().endsWith("Test.java")).toList()) {
                String name = test.getFileName().toString().replace(".java", "");
                Due.is("the page names " + name, page.contains("`" + name + "`"), true);
            }
        }
    }
}
