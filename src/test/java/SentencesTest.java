import java.io.IOException;
import java.nio.charset.StandardCharsets;
import java.nio.file.Files;
import java.nio.file.Path;
import java.util.BitSet;
import java.util.List;
import java.util.regex.Matcher;
import java.util.regex.Pattern;
import java.util.stream.Collectors;
import java.util.stream.Stream;

/** Each sentence of the document that names an edge is said (Due.says) by a test; and so is each promise, whole. */
public final class SentencesTest {
    private static final Due due = new Due();
    private static final Path DOCUMENT = Path.of("../shared/DOC.md"), TESTS = Path.of("src/test/java");
    private static final String LITERAL = "\"((?:[^\"\\\\]|\\\\.)*)\"";
    /** From .. to, "at most", "of several", refusals, and what else tells where a thing ends. */
    private static final Pattern EDGE = Pattern.compile("\\b\\d+ \\.\\. \\d+|\\bn \\.\\. \\d|at most|of several|nearest"
        + "|-\\d+|\\bNONE\\b|\\bBAD\\b|\\bSTATE\\b|\\bFULL\\b|\\bNO\\b|\\bNOTHING\\b|\\bCAST\\b|\\bPLACE\\b|\\bSIZE\\b"
        + "|\\bbeyond\\b|\\bbelow\\b|\\babove\\b|at first|\\bempty\\b|\\bends\\b|wrapping|modulo|lowest|fewe\\w+|more than"
        + "|no more|or less|\\bFAULT\\b|changes nothing|within|as they|\\b1 or 2\\b|\\bnobody\\b|no such");

    public static void main(String[] args) throws IOException {
        String text = Files.readString(DOCUMENT, StandardCharsets.UTF_8).replaceAll("\\s+", " ");
        int from = text.indexOf("## Terms");
        int to = text.indexOf("## Not promised");
        due.is("the document has terms and promises", from >= 0 && to > from ? 1 : 0, 1);
        BitSet said = said(text);
        edges(text, from, to, said);
        promises(text.substring(0, to), said);
        due.end("SentencesTest");
    }

    /** The places of the document's signs that some test says. */
    private static BitSet said(String text) throws IOException {
        List<Path> files;
        try (Stream<Path> list = Files.list(TESTS)) {
            files = list.filter(file -> file.toString().endsWith("Test.java")).sorted().collect(Collectors.toList());
        }
        BitSet said = new BitSet();
        Pattern call = Pattern.compile("due\\.says\\(((?:\\s*" + LITERAL + "\\s*\\+?)+)\\);");
        for (Path file : files) {
            Matcher says = call.matcher(Files.readString(file, StandardCharsets.UTF_8));
            while (says.find()) {
                StringBuilder words = new StringBuilder();
                Matcher part = Pattern.compile(LITERAL).matcher(says.group(1));
                while (part.find()) {
                    words.append(part.group(1));
                }
                for (int i = text.indexOf(words.toString()); i >= 0; i = text.indexOf(words.toString(), i + 1)) {
                    said.set(i, i + words.length());
                }
            }
        }
        return said;
    }

    private static void isSaid(String text, int from, int to, BitSet said) {
        String around = text.substring(Math.max(0, from - 30), Math.min(text.length(), to + 30));
        due.is("'" + text.substring(from, to) + "' in '" + around + "' is said", said.nextClearBit(from) >= to ? 1 : 0, 1);
    }

    private static void edges(String text, int from, int to, BitSet said) {
        Matcher edge = EDGE.matcher(text).region(from, to);
        int many = 0;
        while (edge.find()) {
            isSaid(text, edge.start(), edge.end(), said);
            many++;
        }
        due.is("edges were found", many > 150 ? 1 : 0, 1);
        System.out.println("the document names " + many + " edges");
    }

    private static void promises(String text, BitSet said) {
        Matcher promise = Pattern.compile("## Promise (\\d+): [^`]*`[^`]*`: ").matcher(text);
        int many = 0;
        while (promise.find()) {
            many++;
            due.is("promises in a row", Integer.parseInt(promise.group(1)), many);
            int end = text.indexOf(" ## Promise ", promise.end());
            int last = end < 0 ? text.trim().length() : end;
            isSaid(text, promise.end(), last, said);
        }
        due.is("promises", many, 37);
    }
}
