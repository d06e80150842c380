import java.io.IOException;
import java.lang.reflect.Constructor;
import java.lang.reflect.Field;
import java.lang.reflect.Member;
import java.lang.reflect.Method;
import java.lang.reflect.Modifier;
import java.nio.file.Files;
import java.nio.file.Path;
import java.util.ArrayList;
import java.util.HashSet;
import java.util.List;
import java.util.Set;
import java.util.TreeSet;

/** The face of the document, and those rules of ../shared/LANGUAGE.md that can be seen from here. */
public final class FaceTest {
    private static final Path SOURCE = Path.of("src/main/java/SquareMesh.java");
    private static final Path DOCUMENT = Path.of("../shared/DOC.md");
    private static final String[] FORBIDDEN = {"package ", "catch", "finally", "throw", "synchronized", "assert",
        "->", "::", "Math.sqrt", "Double", "Float", "Exact(", "System.out", "System.nano", "System.current", "Random",
        "HashMap", "HashSet", "Collections", "protected", "volatile", "native", "Object", "equals(", "hashCode",
        "toString", "\"", "while (true", "for (;"};

    private FaceTest() {
    }

    public static void main(String[] args) throws IOException {
        face();
        sizes(SquareMesh.class);
        for (Class<?> inner : SquareMesh.class.getDeclaredClasses()) {
            Due.is(inner + " is static", Modifier.isStatic(inner.getModifiers()), true);
            Due.is(inner + " is private", Modifier.isPrivate(inner.getModifiers()), true);
            sizes(inner);
        }
        Due.is("at most twelve classes", SquareMesh.class.getDeclaredClasses().length <= 11, true);
        names();
        words();
        lengths();
        makings();
        Due.end("FaceTest");
    }

    private static void face() throws IOException {
        Due.is("final", Modifier.isFinal(SquareMesh.class.getModifiers()), true);
        Set<String> wanted = new TreeSet<>();
        boolean inFace = false;
        for (String line : Files.readAllLines(DOCUMENT)) {
            inFace = inFace ? !line.startsWith("```") : line.equals("public final class SquareMesh {");
            if (inFace && line.startsWith("    public ") && line.contains("(")) {
                wanted.add(line.trim().replaceAll(" \\w+([,)])", "$1").replace(";", ""));
            }
        }
        Due.is("the document's face is found", wanted.size() > 50, true);
        Set<String> found = new TreeSet<>();
        for (Method m : SquareMesh.class.getDeclaredMethods()) {
            if (!Modifier.isPrivate(m.getModifiers()) && !m.isSynthetic()) {
                found.add("public " + m.getReturnType() + " " + m.getName() + types(m.getParameterTypes()));
            }
        }
        for (Constructor<?> c : SquareMesh.class.getDeclaredConstructors()) {
            found.add("public SquareMesh" + types(c.getParameterTypes()));
        }
        Due.is("the face " + wanted + " is " + found, wanted.equals(found), true);
        for (Field f : SquareMesh.class.getDeclaredFields()) {
            boolean constant = f.getName().equals("NONE");
            Due.is(f + " is private", Modifier.isPrivate(f.getModifiers()), !constant);
        }
    }

    private static String types(Class<?>[] types) {
        List<String> names = new ArrayList<>();
        for (Class<?> type : types) {
            names.add(type.getName());
        }
        return "(" + String.join(", ", names) + ")";
    }

    private static void sizes(Class<?> of) {
        int fields = 0;
        for (Field f : of.getDeclaredFields()) {
            if (Modifier.isStatic(f.getModifiers())) {
                Due.is(f + " is final", Modifier.isFinal(f.getModifiers()), true);
            } else {
                fields++;
            }
        }
        Due.is(of + " has at most twenty fields", fields <= 20, true);
        for (Method m : of.getDeclaredMethods()) {
            Due.is(m + " takes at most seven", m.getParameterCount() <= 7, true);
        }
    }

    private static void names() {
        Set<String> open = new HashSet<>();
        for (Method m : SquareMesh.class.getDeclaredMethods()) {
            if (Modifier.isPublic(m.getModifiers())) {
                open.add(m.getName());
            }
        }
        List<Member> own = new ArrayList<>();
        for (Method m : SquareMesh.class.getDeclaredMethods()) {
            if (!Modifier.isPublic(m.getModifiers())) {
                own.add(m);
            }
        }
        for (Class<?> inner : SquareMesh.class.getDeclaredClasses()) {
            own.addAll(List.of(inner.getDeclaredMethods()));
        }
        for (Member m : own) {
            Due.is(m + " has a name of its own", open.contains(m.getName()), false);
        }
    }

    private static void words() throws IOException {
        String source = Files.readString(SOURCE).replaceAll("(?s)/\\*.*?\\*/", "").replaceAll("//.*", "");
        for (String word : FORBIDDEN) {
            Due.is("without " + word, source.contains(word), false);
        }
        Due.is("one import", source.split("\nimport |^import ", -1).length, 2);
        Due.is("signs 1 to 127", Files.readString(SOURCE).chars().allMatch(c -> c > 0 && c < 128), true);
    }

    // A method starts at a line with ") {" that is no word of the language, and ends at its own depth.
    private static void lengths() throws IOException {
        int started = 0;
        String start = "";
        int count = 0;
        for (String line : Files.readAllLines(SOURCE)) {
            count++;
            String depth = line.replaceAll("\\S.*", "");
            boolean heads = line.matches("\\s+(\\w|\\[\\]| )+\\(.*\\) \\{") && !line.trim().matches("(if|for|while|switch|\\}).*");
            if (heads && started == 0) {
                started = count;
                start = depth;
            } else if (started != 0 && line.equals(start + "}")) {
                Due.is("a short method at line " + started, count - started <= 60, true);
                started = 0;
            }
        }
        Due.is("all methods end", started, 0);
    }

    // What is made can be counted from the text: by fields as they are declared, and in the open constructor.
    private static void makings() throws IOException {
        boolean inConstructor = false;
        int count = 0;
        int made = 0;
        for (String line : Files.readAllLines(SOURCE)) {
            count++;
            inConstructor = line.equals("    public SquareMesh() {") || inConstructor && !line.equals("    }");
            boolean comment = line.trim().startsWith("*") || line.trim().startsWith("/");
            if (!comment && line.matches(".*\\b(new|clone|copyOf|copyOfRange|values)\\b.*")) {
                boolean field = line.matches("        (private )?final (int|long)\\[\\] \\w+ = new \\w+\\[[^]]*\\];")
                    || line.matches("        (private )?final (\\w+) \\w+ = new \\2\\(\\);");
                boolean part = inConstructor && line.matches("        \\w+ = new \\w+(\\(\\)|\\[MOST\\]);");
                Due.is("made once, at line " + count, field || part, true);
                made++;
            }
            Due.is("no loop in the constructor, at line " + count, inConstructor && line.matches("\\s+(for|while|do)\\b.*"), false);
        }
        Due.is("some rows are made", made > 20, true);
    }
}
