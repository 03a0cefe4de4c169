import java.io.IOException;
import java.net.URL;
import java.net.URLClassLoader;
import java.nio.charset.StandardCharsets;
import java.nio.file.Files;
import java.nio.file.Path;
import java.util.ArrayList;
import java.util.Comparator;
import java.util.List;
import java.util.Set;
import java.util.TreeSet;
import java.util.regex.Matcher;
import java.util.regex.Pattern;
import java.util.stream.Collectors;
import java.util.stream.Stream;
import javax.tools.ToolProvider;

/** README.md: its example answers as it says, its commands run, and it names each call and each test. */
public final class ReadmeTest {
    private static final Due due = new Due();
    private static final Path README = Path.of("README.md"), TESTS = Path.of("src/test/java");

    public static void main(String[] args) throws Exception {
        String text = Files.readString(README, StandardCharsets.UTF_8);
        List<String> examples = blocks(text, "java");
        due.is("examples", examples.size(), 1);
        for (String example : examples) {
            example(example);
        }
        calls(text);
        tests(text);
        commands(blocks(text, "sh"));
        due.end("ReadmeTest");
    }

    private static List<String> blocks(String text, String kind) {
        List<String> blocks = new ArrayList<>();
        Matcher block = Pattern.compile("(?ms)^```" + kind + "\\n(.*?)^```$").matcher(text);
        while (block.find()) {
            blocks.add(block.group(1));
        }
        return blocks;
    }

    private static void yes(String what, boolean is) {
        due.is(what, is ? 1 : 0, 1);
    }

    /** Compiles the example, with each call's answer put on a list, and runs it. */
    private static void example(String example) throws Exception {
        Matcher line = Pattern.compile("(?m)^(x\\.\\w+\\(.*\\)); +// (-?\\d+): .*$").matcher(example);
        List<String> called = new ArrayList<>();
        List<Long> want = new ArrayList<>();
        StringBuilder code = new StringBuilder("public final class ReadmeExample {\n"
            + "public static void plays(java.util.List<Long> answers) {\n");
        while (line.find()) {
            called.add(line.group(1));
            want.add(Long.parseLong(line.group(2)));
            line.appendReplacement(code, "answers.add((long) $1);");
        }
        line.appendTail(code).append("}\n}\n");
        yes("calls in the example", called.size() > 20);
        Path out = Files.createTempDirectory("readme");
        try {
            Path file = Files.writeString(out.resolve("ReadmeExample.java"), code);
            int compiled = ToolProvider.getSystemJavaCompiler().run(null, null, null, "--release", "17",
                "-cp", System.getProperty("java.class.path"), "-d", out.toString(), file.toString());
            due.is("the example compiles", compiled, 0);
            List<Long> is = compiled == 0 ? played(out) : List.of();
            due.is("answers", is.size(), want.size());
            for (int i = 0; i < Math.min(is.size(), want.size()); i++) {
                due.is(called.get(i), is.get(i), want.get(i));
            }
        } finally {
            removes(out);
        }
    }

    private static List<Long> played(Path out) throws Exception {
        List<Long> answers = new ArrayList<>();
        try (URLClassLoader loader = new URLClassLoader(new URL[] {out.toUri().toURL()})) {
            loader.loadClass("ReadmeExample").getMethod("plays", List.class).invoke(null, answers);
        }
        return answers;
    }

    private static void removes(Path tree) throws IOException {
        try (Stream<Path> all = Files.walk(tree)) {
            for (Path path : all.sorted(Comparator.reverseOrder()).collect(Collectors.toList())) {
                Files.delete(path);
            }
        }
    }

    private static void calls(String text) {
        Set<String> named = new TreeSet<>();
        Matcher call = Pattern.compile("`(\\w+)\\(`").matcher(text);
        while (call.find()) {
            named.add(call.group(1));
        }
        Set<String> calls = new TreeSet<>();
        for (java.lang.reflect.Method method : PastCatchers.class.getDeclaredMethods()) {
            if (java.lang.reflect.Modifier.isPublic(method.getModifiers())) {
                calls.add(method.getName());
            }
        }
        yes("it names " + named + ", the calls are " + calls, named.equals(calls));
    }

    private static void tests(String text) throws IOException {
        Set<String> named = new TreeSet<>();
        Matcher test = Pattern.compile("`(\\w+Test)`").matcher(text);
        while (test.find()) {
            named.add(test.group(1));
        }
        try (Stream<Path> files = Files.list(TESTS)) {
            Set<String> tests = files.map(file -> file.getFileName().toString()).filter(name -> name.endsWith("Test.java"))
                .map(name -> name.replace(".java", "")).collect(Collectors.toCollection(TreeSet::new));
            yes("it names " + named + ", the tests are " + tests, named.equals(tests));
        }
    }

    /** All but .ci/run itself, in which this test runs, are run. */
    private static void commands(List<String> blocks) throws Exception {
        yes("it names .ci/run", blocks.contains(".ci/run\n"));
        yes(".ci/run can be run", Files.isExecutable(Path.of(".ci/run")));
        int run = 0;
        for (String block : blocks) {
            if (!block.equals(".ci/run\n")) {
                run++;
                String cleans = "trap 'rm -rf \"$out\"' EXIT\n";
                Process shell = new ProcessBuilder("sh", "-e", "-c", cleans + block).redirectErrorStream(true).start();
                shell.getOutputStream().close();
                String printed = new String(shell.getInputStream().readAllBytes(), StandardCharsets.UTF_8);
                due.is("these commands:\n" + block + "which print:\n" + printed + "and so their exit code", shell.waitFor(), 0);
            }
        }
        due.is("commands for one test", run, 2);
    }
}
