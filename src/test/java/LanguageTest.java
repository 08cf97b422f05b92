import java.io.IOException;
import java.nio.file.Files;
import java.nio.file.Path;
import java.util.ArrayList;
import java.util.List;
import java.util.Set;
import java.util.TreeSet;
import java.util.regex.Matcher;
import java.util.regex.Pattern;

/** Rules of LANGUAGE.md that can be seen in the text of the source. */
public final class LanguageTest {
    private static final Calls T = new Calls("LanguageTest");
    private static final Path SOURCE = Path.of("src/main/java/OneCoin.java");
    private static final Pattern METHOD =
        Pattern.compile("^ {4,8}(?:(public|private) )?(?:static )?(?:[\\w\\[\\]]+ )(\\w+)\\(([^)]*)\\) \\{$");

    public static void main(String[] args) throws IOException {
        List<String> lines = Files.readAllLines(SOURCE);
        List<String> code = new ArrayList<>();
        for (String line : lines) {
            code.add(line.replaceAll("\"[^\"]*\"|'[^']*'", "0").replaceAll("//.*|/\\*\\*.*\\*/", ""));
        }
        words(code);
        imports(code);
        face(code);
        statics(code);
        methods(code);
        loops(code);
        T.end();
    }

    private static List<String> lines(List<String> code, String pattern) {
        List<String> found = new ArrayList<>();
        for (String line : code) {
            if (Pattern.compile(pattern).matcher(line).find()) {
                found.add(line);
            }
        }
        return found;
    }

    private static void rule(String name, List<String> code, String pattern, int many) {
        List<String> found = lines(code, pattern);
        T.due(name, found.size(), many);
        if (found.size() != many) {
            found.forEach(System.out::println);
        }
    }

    private static void words(List<String> code) {
        rule("6, no such words", code, "\\b(throw|throws|try|catch|finally|synchronized|assert)\\b", 0);
        rule("6, no equals and the like", code, "\\b(equals|hashCode|toString|getClass)\\b", 0);
        rule("2, no lambda, no method reference", code, "->|::", 0);
        rule("4, nothing that ends in Exact", code, "Exact\\b", 0);
        rule("13, no outside", code, "\\b(Random|random|currentTimeMillis|nanoTime|Thread|File|getenv)\\b", 0);
        rule("3, 12, objects are made in fields and constructors alone", code, "^ {12,}.*\\bnew\\b", 0);
        rule("3, signs 1 to 127", code, "[^\\x01-\\x7f]", 0);
    }

    private static void imports(List<String> code) {
        rule("4, imports", code, "^import (?!java\\.util\\.(Arrays|ArrayList|List|Iterator);)", 0);
        rule("no package", code, "^package\\b", 0);
        rule("no full names", code, "^(?!import).*\\bjava\\.", 0);
    }

    private static void face(List<String> code) {
        Set<String> publicOnes = new TreeSet<>();
        Set<String> others = new TreeSet<>();
        int hidden = 0;
        for (String line : code) {
            Matcher m = METHOD.matcher(line);
            if (m.matches() && "public".equals(m.group(1))) {
                publicOnes.add(m.group(2));
            } else if (m.matches()) {
                others.add(m.group(2));
            }
            boolean ofTheFace = line.matches("^ {4}\\S.*") && !line.matches("^ {4}([}@].*|private .*|public .*)");
            hidden += ofTheFace ? 1 : 0;
        }
        T.due("33 methods", publicOnes.size(), 33);
        others.retainAll(publicOnes);
        T.due("1, no private method bears the name of a public one", others.size(), 0);
        T.due("1, nothing package-visible", hidden, 0);
        rule("1, public: class, NONE, constructor, methods", code, "\\bpublic\\b", 36);
    }

    private static void statics(List<String> code) {
        rule("5, static fields are final", code, "\\bstatic (?!final\\b)[^(]*(=|;)", 0);
        rule("2, classes inside are static", code, "^ +(private )?(final )?class\\b", 0);
        int classes = lines(code, "\\bclass \\w+").size();
        T.due("11, some twelve classes: " + classes, classes <= 12, true);
    }

    private static void methods(List<String> code) {
        String name = null;
        int start = 0;
        for (int k = 0; k < code.size(); k++) {
            Matcher m = METHOD.matcher(code.get(k));
            if (m.matches()) {
                name = m.group(2);
                start = k;
                int parameters = m.group(3).isEmpty() ? 0 : m.group(3).split(",").length;
                T.due("11, parameters of " + name, parameters <= 7, true);
            } else if (name != null && code.get(k).matches("^ {4,8}\\}$")) {
                T.due("11, lines of " + name, k - start < 60, true);
                name = null;
            }
        }
    }

    private static void loops(List<String> code) {
        rule("9, loops count against a bound", code, "\\b(while|do)\\b", 0);
        rule("9, each for has a bound", code, "\\bfor \\([^;:]*;[^;<>]*;", 0);
    }
}
