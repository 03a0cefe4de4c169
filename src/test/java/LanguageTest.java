import java.lang.reflect.Constructor;
import java.lang.reflect.Field;
import java.lang.reflect.Method;
import java.lang.reflect.Modifier;
import java.nio.charset.StandardCharsets;
import java.nio.file.Files;
import java.nio.file.Path;
import java.util.ArrayList;
import java.util.List;
import java.util.Map;
import java.util.Set;
import java.util.TreeMap;
import java.util.TreeSet;
import java.util.regex.Matcher;
import java.util.regex.Pattern;

/** The face of the document, and what of LANGUAGE.md can be seen from the source and by reflection. */
public final class LanguageTest {
    private static final Due due = new Due();
    private static final Path SOURCE = Path.of("src/main/java/PastCatchers.java");
    private static final Path DOCUMENT = Path.of("../shared/DOC.md");

    public static void main(String[] args) throws Exception {
        List<Class<?>> classes = new ArrayList<>(List.of(PastCatchers.class.getDeclaredClasses()));
        face();
        classes.add(PastCatchers.class);
        inside(classes);
        String source = Files.readString(SOURCE, StandardCharsets.UTF_8);
        order(source);
        words(withoutTexts(source));
        made(withoutTexts(source));
        lengths(source);
        depths(withoutTexts(source));
        due.end("LanguageTest");
    }

    private static void not(String what, boolean wrong) {
        due.is(what, wrong ? 1 : 0, 0);
    }

    /** Each line of the face that the document tells, in one form. */
    private static Set<String> facesOfDocument() throws Exception {
        String text = Files.readString(DOCUMENT, StandardCharsets.UTF_8);
        Matcher block = Pattern.compile("```java\\n(.*?)```", Pattern.DOTALL).matcher(text);
        Set<String> faces = new TreeSet<>();
        if (block.find()) {
            Matcher method = Pattern.compile("public (\\w+) (\\w+)\\(([^)]*)\\);").matcher(block.group(1));
            while (method.find()) {
                faces.add(method.group(1) + " " + method.group(2) + "("
                    + method.group(3).replaceAll(" \\w+(, |$)", "$1") + ")");
            }
        }
        return faces;
    }

    private static void face() throws Exception {
        Set<String> is = new TreeSet<>();
        for (Method method : PastCatchers.class.getDeclaredMethods()) {
            if (Modifier.isPublic(method.getModifiers())) {
                List<String> types = new ArrayList<>();
                for (Class<?> type : method.getParameterTypes()) {
                    types.add(type.getName());
                }
                is.add(method.getReturnType().getName() + " " + method.getName() + "("
                    + String.join(", ", types) + ")");
            } else {
                not(method + " is seen from outside", !Modifier.isPrivate(method.getModifiers()));
            }
        }
        Set<String> want = facesOfDocument();
        System.out.println("the face has " + want.size() + " methods");
        not("no face in the document", want.isEmpty());
        not("the face is " + is + ", due is " + want, !is.equals(want));
        not("not final", !Modifier.isFinal(PastCatchers.class.getModifiers()));
        Constructor<?>[] constructors = PastCatchers.class.getDeclaredConstructors();
        due.is("constructors", constructors.length, 1);
        not("constructor", !Modifier.isPublic(constructors[0].getModifiers())
            || constructors[0].getParameterCount() != 0);
        Set<String> constants = new TreeSet<>();
        for (Field field : PastCatchers.class.getDeclaredFields()) {
            if (!Modifier.isPrivate(field.getModifiers())) {
                constants.add(Modifier.toString(field.getModifiers()) + " " + field.getType() + " " + field.getName());
            }
        }
        not("constants " + constants, !constants.equals(Set.of("public static final int NONE",
            "public static final int BAD", "public static final int STATE", "public static final int FULL",
            "public static final long NO")));
    }

    /** The calls stand in the document's order, each group behind the heading that the interface has there. */
    private static void order(String source) throws Exception {
        String text = Files.readString(DOCUMENT, StandardCharsets.UTF_8);
        Matcher group = Pattern.compile("Ahead of the calls ([^\\n]*?) the interface says: (---- [^\\n]*)\\.").matcher(text);
        List<String> want = new ArrayList<>();
        while (group.find()) {
            want.add("// " + group.group(2));
            for (String call : group.group(1).split(", ")) {
                want.add(call.replace("`", ""));
            }
        }
        List<String> is = new ArrayList<>();
        Matcher part = Pattern.compile("(?m)^    (// ---- .*)$|^    public (?:int|long) (\\w+)\\(").matcher(source);
        while (part.find()) {
            is.add(part.group(1) == null ? part.group(2) : part.group(1));
        }
        not("no groups in the document", want.size() != 36 + 5);
        not("the order is " + is + ", due is " + want, is.size() < want.size()
            || !is.subList(0, want.size()).equals(want));
    }

    /** All that is made is made with an object: by a field's own line, or by the constructor. */
    private static void made(String source) {
        String fields = source.replaceAll("(?m)^ +private (?:static )?(?:final )?[\\w\\[\\]]+ \\w+ = new [^;{}]*;$", "")
            .replaceAll("(?s)    public PastCatchers\\(\\) \\{.*?\\n    \\}\\n", "");
        Matcher made = Pattern.compile("[^\\n]*(\\bnew\\b|\\bclone\\(|copyOf|= \\{|\\[\\] \\{)[^\\n]*").matcher(fields);
        while (made.find()) {
            not("made by a call: " + made.group(), !made.group().contains(" static final int[] "));
        }
    }

    private static void inside(List<Class<?>> classes) {
        not("more than 12 classes", classes.size() > 12);
        Set<String> publicNames = new TreeSet<>();
        for (Method method : PastCatchers.class.getMethods()) {
            publicNames.add(method.getName());
        }
        for (Class<?> one : classes) {
            not(one + " is no static class", one != PastCatchers.class && !Modifier.isStatic(one.getModifiers()));
            not(one + " is public", one != PastCatchers.class && Modifier.isPublic(one.getModifiers()));
            int fields = 0;
            for (Field field : one.getDeclaredFields()) {
                boolean isStatic = Modifier.isStatic(field.getModifiers());
                not(field + " is static and not final", isStatic && !Modifier.isFinal(field.getModifiers()));
                fields += isStatic ? 0 : 1;
            }
            not(one + " has " + fields + " fields", fields > 20);
            for (Method method : one.getDeclaredMethods()) {
                boolean isPublic = Modifier.isPublic(method.getModifiers());
                not(method + " bears a public name", !isPublic && publicNames.contains(method.getName()));
                not(method + " has too many parameters", method.getParameterCount() > 7);
                not(method + " is synthetic", method.isSynthetic());
            }
        }
    }

    private static String withoutTexts(String source) {
        return source.replaceAll("(?s)/\\*.*?\\*/", " ").replaceAll("//[^\\n]*", " ")
            .replaceAll("\"[^\"\\n]*\"", "\"\"").replaceAll("'[^']*'", "' '");
    }

    private static void words(String source) {
        String[] forbidden = {"throw", "throws", "try", "catch", "finally", "synchronized", "assert", "volatile",
            "transient", "native", "strictfp", "package", "protected", "instanceof", "var", "double", "float",
            "Exception", "Error", "Object", "System\\.(?!arraycopy\\b)\\w+", "Thread", "Random", "Class",
            "Math\\.\\w+Exact", "equals", "hashCode", "toString", "yield"};
        for (String word : forbidden) {
            not("the word " + word, Pattern.compile("\\b" + word + "\\b").matcher(source).find());
        }
        not("a lambda", source.contains("->"));
        not("a method reference", source.contains("::"));
        not("an annotation", source.contains("@"));
        not("a static block", Pattern.compile("\\bstatic\\s*\\{").matcher(source).find());
        not("an endless loop", Pattern.compile("\\bwhile\\b|for\\s*\\(\\s*;\\s*;").matcher(source).find());
        Matcher imports = Pattern.compile("import ([^;]+);").matcher(source);
        while (imports.find()) {
            not("import " + imports.group(1), !imports.group(1).equals("java.util.Arrays"));
        }
        for (int i = 0; i < source.length(); i++) {
            not("the sign at " + i, source.charAt(i) > 126 || source.charAt(i) < 32 && source.charAt(i) != '\n');
        }
        Matcher made = Pattern.compile("\\bnew (\\w+)").matcher(source.substring(source.indexOf("// ----") + 1));
        Set<String> own = Set.of("Group", "Crossing", "Yard", "TextReader", "Acts", "Tapes", "int", "long");
        while (made.find()) {
            not("new " + made.group(1), !own.contains(made.group(1)));
        }
    }

    /** Calls by name alone, so that two methods of one name count as one: no path of calls may be longer than eight. */
    private static void depths(String source) {
        Map<String, String> bodies = new TreeMap<>();
        Matcher method = Pattern.compile("(?m)^( +)(?:public|private)[^=;{]*?(\\w+)\\([^)]*\\) \\{$((?s).*?)^\\1\\}$")
            .matcher(source);
        while (method.find()) {
            bodies.merge(method.group(2), method.group(3), String::concat);
        }
        not("few methods were found: " + bodies.size(), bodies.size() < 80);
        int deepest = 0;
        for (String name : bodies.keySet()) {
            deepest = Math.max(deepest, depth(name, bodies, new TreeSet<>()));
        }
        System.out.println("calls go " + deepest + " deep");
        not("calls go " + deepest + " deep", deepest > 8);
    }

    private static int depth(String name, Map<String, String> bodies, Set<String> open) {
        open.add(name);
        int deepest = 0;
        Matcher call = Pattern.compile("(\\w+)\\(").matcher(bodies.get(name));
        Set<String> called = new TreeSet<>();
        while (call.find()) {
            called.add(call.group(1));
        }
        for (String next : called) {
            if (bodies.containsKey(next) && !open.contains(next)) {
                deepest = Math.max(deepest, depth(next, bodies, open));
            }
        }
        open.remove(name);
        return deepest + 1;
    }

    /** A method begins with its brace at a line's end and ends with one at the same indent. */
    private static void lengths(String source) {
        String[] lines = source.split("\n");
        for (int i = 0; i < lines.length; i++) {
            not("line " + (i + 1) + " is long", lines[i].length() > 120);
            Matcher head = Pattern.compile("^( +)(public|private)[^=;]*\\) \\{$").matcher(lines[i]);
            if (head.find()) {
                int end = i;
                while (end < lines.length && !lines[end].equals(head.group(1) + "}")) {
                    end++;
                }
                not("the method at line " + (i + 1) + " is long", end - i > 60);
            }
        }
    }
}
