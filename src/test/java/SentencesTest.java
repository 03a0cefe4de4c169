import java.io.IOException;
import java.nio.charset.StandardCharsets;
import java.nio.file.Files;
import java.nio.file.Path;
import java.util.BitSet;
import java.util.List;
import java.util.regex.Matcher;
import java.util.regex.Pattern;
import java.util.stream.Collectors;
import java.util.stream.Stream;

/** Each word of the document's terms and promises is said (Due.says) by a test; only headings and the like are not. */
public final class SentencesTest {
    private static final Due due = new Due();
    private static final Path DOCUMENT = Path.of("../shared/DOC.md"), TESTS = Path.of("src/test/java");
    private static final String LITERAL = "\"((?:[^\"\\\\]|\\\\.)*)\"";
    /** What parts the sentences and tells nothing itself; how the interface is parted is looked at by LanguageTest. */
    private static final Pattern FRAME = Pattern.compile("## Terms|==== \\d|```text|```"
        + "|## Promise \\d+: (?:A new object|\\w+) |`int [^`]*`: |`long [^`]*`: "
        + "|Ahead of the calls (?:`\\w+`(?:, )?)+ the interface says: ---- [a-z, ]+\\.");

    public static void main(String[] args) throws IOException {
        String text = Files.readString(DOCUMENT, StandardCharsets.UTF_8).replaceAll("\\s+", " ");
        int from = text.indexOf("## Terms");
        int to = text.indexOf("## Not promised");
        due.is("the document has terms and promises", from >= 0 && to > from ? 1 : 0, 1);
        BitSet told = said(text);
        frames(text, from, to, told);
        words(text, from, to, told);
        promises(text.substring(0, to));
        due.end("SentencesTest");
    }

    /** The places of the document's signs that some test says. */
    private static BitSet said(String text) throws IOException {
        List<Path> files;
        try (Stream<Path> list = Files.list(TESTS)) {
            files = list.filter(file -> file.toString().endsWith("Test.java")).sorted().collect(Collectors.toList());
        }
        BitSet said = new BitSet();
        Pattern call = Pattern.compile("due\\.says\\(((?:\\s*" + LITERAL + "\\s*\\+?)+)\\);");
        for (Path file : files) {
            Matcher says = call.matcher(Files.readString(file, StandardCharsets.UTF_8));
            while (says.find()) {
                StringBuilder words = new StringBuilder();
                Matcher part = Pattern.compile(LITERAL).matcher(says.group(1));
                while (part.find()) {
                    words.append(part.group(1));
                }
                for (int i = text.indexOf(words.toString()); i >= 0; i = text.indexOf(words.toString(), i + 1)) {
                    said.set(i, i + words.length());
                }
            }
        }
        return said;
    }

    private static void frames(String text, int from, int to, BitSet told) {
        Matcher frame = FRAME.matcher(text).region(from, to);
        while (frame.find()) {
            told.set(frame.start(), frame.end());
        }
    }

    private static void words(String text, int from, int to, BitSet told) {
        Matcher word = Pattern.compile("[\\w`!&|<>=(-]+").matcher(text).region(from, to);
        int many = 0;
        while (word.find()) {
            many++;
            String around = text.substring(Math.max(0, word.start() - 30), Math.min(text.length(), word.end() + 30));
            due.is("'" + word.group() + "' in '" + around + "' is said",
                told.nextClearBit(word.start()) >= word.end() ? 1 : 0, 1);
        }
        due.is("words were found", many > 1500 ? 1 : 0, 1);
        System.out.println("the document's terms and promises have " + many + " words");
    }

    private static void promises(String text) {
        Matcher promise = Pattern.compile("## Promise (\\d+): [^`]*`[^`]*`: ").matcher(text);
        int many = 0;
        while (promise.find()) {
            many++;
            due.is("promises in a row", Integer.parseInt(promise.group(1)), many);
        }
        due.is("promises", many, 37);
    }
}
