import java.nio.charset.StandardCharsets;
import java.nio.file.Files;
import java.nio.file.Path;

/** Counts the answers of one test that are not the ones that are due. */
final class Due {
    private static final Path DOCUMENT = Path.of("../shared/DOC.md");

    private int right;
    private int wrong;
    private String document = "";
    private String sentence = "";

    void is(String call, long got, long want) {
        if (got == want) {
            right++;
            return;
        }
        wrong++;
        if (wrong <= 40) {
            System.out.println((sentence.isEmpty() ? "" : "[" + sentence + "] ")
                + call + " answered " + got + ", due is " + want);
        }
    }

    /** What follows is about these words of the document; they must stand in it, blanks and line ends alike. */
    void says(String words) throws Exception {
        if (document.isEmpty()) {
            document = Files.readString(DOCUMENT, StandardCharsets.UTF_8).replaceAll("\\s+", " ");
        }
        sentence = words;
        is("the document's words", document.contains(words) ? 1 : 0, 1);
    }

    int wrong() {
        return wrong;
    }

    void end(String test) {
        System.out.println(test + ": " + right + " answers as due, " + wrong + " not");
        if (wrong != 0) {
            System.exit(1);
        }
    }

    /** A new object with people (kind, v, lane, pace, strength each); those of the bits catch. */
    static PastCatchers people(int catching, int... fives) {
        PastCatchers x = new PastCatchers();
        for (int i = 0; i + 4 < fives.length; i += 5) {
            x.person(fives[i], fives[i + 1], fives[i + 2], fives[i + 3], fives[i + 4]);
        }
        for (int p = 0; p < 7; p++) {
            if ((catching >> p & 1) == 1) {
                x.catches(p, true);
            }
        }
        return x;
    }

    /** Feeds a text, sign by sign. */
    static void feed(PastCatchers x, String text) {
        for (int i = 0; i < text.length(); i++) {
            x.feed(text.charAt(i));
        }
    }

    /** Feeds a text and reads a yard from it. */
    static int yard(PastCatchers x, String text) {
        feed(x, text);
        return x.yard();
    }
}
