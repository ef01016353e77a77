import java.io.IOException;
import java.nio.charset.StandardCharsets;
import java.nio.file.Files;
import java.nio.file.Path;
import java.util.Set;
import java.util.TreeSet;
import java.util.regex.Matcher;
import java.util.regex.Pattern;

/** The rules of ../shared/LANGUAGE.md that can be seen in the words of the class's file; reading tells the others. */
final class RulesTest {
    private static final Path FILE = Path.of("src/main/java/KeypadWriter.java");
    /** The types of rules 3, 4 and 6 that the class may name beside its own. */
    private static final Set<String> TYPES = Set.of("String", "StringBuilder", "Integer", "Long", "Math", "System",
        "Arrays", "List", "ArrayList", "Iterator", "Iterable", "Comparable", "IllegalStateException",
        "IllegalArgumentException", "IndexOutOfBoundsException", "ArithmeticException",
        "UnsupportedOperationException", "NoSuchElementException", "RuntimeException");
    private static final String[] FORBIDDEN = {
        "\\bpackage\\b", "->", "::", "\\bfinally\\b", "\\bassert\\b", "\\bsynchronized\\b", "Exact\\b",
        "\\bequals\\s*\\(\\s*Object", "\\bhashCode\\b", "\\btoString\\s*\\(\\s*\\)\\s*\\{", "\"\"\\s*\\+", "\\+\\s*\"\"",
        "\\bthrow\\s+(?!new\\b)", "\\bstatic\\s*\\{", "catch\\s*\\(\\s*(Exception|Throwable|RuntimeException)",
        "\\bthrow new \\w+\\((?!\\)|\"\"\\))"
    };
    private static final int LONGEST_METHOD = 60;
    private static final int MOST_PARAMETERS = 7;
    private static final int MOST_CLASSES = 12;

    private RulesTest() {
    }

    public static void main(String[] args) throws IOException {
        String written = Files.readString(FILE, StandardCharsets.UTF_8);
        Checks.due("signs that are not 1 to 127", "", written.replaceAll("[\\x01-\\x7f]", ""));
        String code = codeOf(written);
        for (String pattern : FORBIDDEN) {
            Checks.due("what matches " + pattern, "[]", found(pattern, code).toString());
        }
        types(code);
        staticFields(code);
        methods(code);
        Checks.finish("RulesTest");
    }

    /** The text without comments, and with empty strings and signs; its lines stay. */
    private static String codeOf(String written) {
        return written.replaceAll("\"[^\"\n]*\"", "\"\"").replaceAll("'[^'\n]{1,2}'", "' '")
            .replaceAll("/\\*[^*]*\\*+([^/*][^*]*\\*+)*/", "").replaceAll("//[^\n]*", "");
    }

    private static void types(String code) {
        Set<String> own = found("(?<=\\b(class|record|enum|interface) )\\w+", code);
        Checks.due("at most " + MOST_CLASSES + " classes", 1, own.size() <= MOST_CLASSES ? 1 : 0);
        Set<String> named = found("\\b[A-Z]\\w*[a-z]\\w*\\b", code);
        named.removeAll(own);
        named.removeAll(TYPES);
        Checks.due("types that the rules don't list", "[]", named.toString());
    }

    private static void staticFields(String code) {
        Checks.due("static fields that are not final", "[]",
            found("\\bstatic (?!final|abstract)[\\w\\[\\]]+ \\w+ *[=;]", code).toString());
        Checks.due("static fields of other types", "[]",
            found("\\bstatic final (?!class\\b|(int|long|boolean|char|String) \\w|(int|long|char|byte)\\[\\] \\w)[^;]*;",
                code).toString());
    }

    private static void methods(String code) {
        Matcher heads = Pattern.compile("(?m)^( +)[\\w\\[\\] ]+\\(([^()]*)\\)[\\w, ]* \\{$").matcher(code);
        int count = 0;
        while (heads.find()) {
            String head = heads.group().trim();
            if (head.matches("(if|for|while|switch|} else if) .*")) {
                continue;
            }
            count++;
            int end = code.indexOf("\n" + heads.group(1) + "}\n", heads.end());
            String body = code.substring(heads.start(), end);
            Checks.due("lines of " + head, 1, body.split("\n").length < LONGEST_METHOD ? 1 : 0);
            Checks.due("parameters of " + head, 1,
                heads.group(2).split(",").length <= MOST_PARAMETERS ? 1 : 0);
        }
        Checks.due("the methods were found", 1, count > 25 ? 1 : 0);
    }

    private static Set<String> found(String pattern, String code) {
        Set<String> all = new TreeSet<>();
        Matcher matcher = Pattern.compile(pattern).matcher(code);
        while (matcher.find()) {
            all.add(matcher.group());
        }
        return all;
    }
}
