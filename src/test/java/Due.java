/** Counts answers that are as due and prints those that aren't, with the sentence that asks for them. */
final class Due {
    private static final int SHOWN = 40;
    private static int right = 0;
    private static int wrong = 0;
    private static String sentence = "";
    private static int rows = 1;

    private Due() {
    }

    /** The answers that follow are due by these words of a promise, or of what binds every promise. */
    static void says(int promise, String words) {
        endSentence();
        sentence = "promise " + promise + ", \"" + words + "\": ";
        rows = 0;
        if (!Document.quote(promise, words)) {
            is("the words in the document", 0, 1);
        }
    }

    static void is(String call, long got, long want) {
        rows++;
        if (got == want) {
            right++;
            return;
        }
        wrong++;
        if (wrong <= SHOWN) {
            System.out.println(sentence + call + " answered " + got + ", due is " + want);
        }
    }

    static void is(String call, boolean got, boolean want) {
        is(call, got ? 1L : 0L, want ? 1L : 0L);
    }

    static void same(String call, String got, String want) {
        boolean alike = got.equals(want);
        is(alike ? call : call + " [" + got + "] for [" + want + "]", alike, true);
    }

    /** A sentence without an answer under it would pass whatever the class does. */
    static void endSentence() {
        if (rows == 0) {
            is("answers under it", 0, 1);
        }
        sentence = "";
        rows = 1;
    }

    static int wrong() {
        return wrong;
    }

    static void end(String test) {
        endSentence();
        System.out.println(test + ": " + right + " answers as due, " + wrong + " not");
        if (wrong != 0 || right == 0) {
            System.exit(1);
        }
    }
}
