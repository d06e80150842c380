import java.io.IOException;
import java.io.UncheckedIOException;
import java.nio.file.Files;
import java.nio.file.Path;
import java.util.ArrayList;
import java.util.BitSet;
import java.util.List;
import java.util.regex.Matcher;
import java.util.regex.Pattern;

/** The sentences of ../shared/DOC.md, and which of their words the tests have quoted. */
final class Document {
    private static final Path PLACE = Path.of("../shared/DOC.md");
    private static final int PROMISES = 61;

    // Words and ranges that name an edge of what is promised.
    private static final Pattern EDGE = Pattern.compile("NONE|[Ff]alse|[Nn]one|-?\\d+ \\.\\. \\d+|\\(0 \\.\\.\\)|-100000"
        + "|-2:|for others|at first|at most|at once|at one\\b|out of the square|just|least|like ones|latest|earliest"
        + "|between|downward|its own|that is all\\b|mod \\d+|always|once|not FIXED yet|in any order|no BORDER|no STEP"
        + "|it stays|if there are|too\\b|not\\b|aren't|no POINT|no other|no FIXED|fewest|behind|unlike|both");

    /** A promise's own text, or (number 0) what binds all of them. */
    private static final class Part {
        final String name;
        final String text;
        final BitSet quoted = new BitSet();

        Part(String name, String text) {
            this.name = name;
            this.text = text;
        }

        boolean quote(String words) {
            int at = text.indexOf(words);
            if (at < 0) {
                return false;
            }
            quoted.set(at, at + words.length());
            return true;
        }
    }

    private static final List<Part> PARTS = read();

    private Document() {
    }

    /** Marks words of a promise, or of what binds every promise, as quoted; false if they stand in neither. */
    static boolean quote(int promise, String words) {
        return promise >= 1 && promise <= PROMISES
            && (PARTS.get(promise).quote(words) || PARTS.get(0).quote(words));
    }

    /** Every sentence, and every word that names an edge, of which no test quotes anything. */
    static List<String> unquoted() {
        List<String> found = new ArrayList<>();
        for (Part part : PARTS) {
            for (int[] s : sentences(part.text)) {
                int next = part.quoted.nextSetBit(s[0]);
                if (next < 0 || next >= s[1]) {
                    found.add(part.name + ": " + part.text.substring(s[0], s[1]));
                }
            }
            Matcher edges = EDGE.matcher(part.text);
            while (edges.find()) {
                if (part.quoted.nextClearBit(edges.start()) < edges.end()) {
                    int from = Math.max(0, edges.start() - 40);
                    int to = Math.min(part.text.length(), edges.end() + 40);
                    found.add(part.name + ", '" + edges.group() + "' in: " + part.text.substring(from, to));
                }
            }
        }
        return found;
    }

    // A dot ends a sentence, but not the dots of a range.
    private static List<int[]> sentences(String text) {
        List<int[]> found = new ArrayList<>();
        Matcher ends = Pattern.compile("(?<=[^.\\s])\\.(\\s+|$)").matcher(text);
        int from = 0;
        while (ends.find()) {
            found.add(new int[] {from, ends.start() + 1});
            from = ends.end();
        }
        return found;
    }

    private static List<Part> read() {
        String whole;
        try {
            whole = Files.readString(PLACE);
        } catch (IOException e) {
            throw new UncheckedIOException(e);
        }
        List<Part> parts = new ArrayList<>();
        String use = between(whole, "An object is used", "## The public face");
        String terms = between(whole, "## Terms", "## Promise 1:").replaceAll("```text|```|## Terms|==== I+\\.", "");
        parts.add(new Part("what binds all", plain("An object is used" + use + " " + terms)));
        for (int n = 1; n <= PROMISES; n++) {
            String end = n < PROMISES ? "## Promise " + (n + 1) + ":" : "## Not promised";
            String own = between(whole, "## Promise " + n + ":", end);
            parts.add(new Part("promise " + n, plain(own.substring(own.lastIndexOf("`: ") + 3))));
        }
        return parts;
    }

    private static String between(String text, String start, String end) {
        int from = text.indexOf(start) + start.length();
        return text.substring(from, text.indexOf(end, from));
    }

    private static String plain(String text) {
        return text.replaceAll("\\s+", " ").trim();
    }
}
