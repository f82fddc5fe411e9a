import java.io.IOException;
import java.nio.file.Files;
import java.nio.file.Path;
import java.util.regex.Matcher;
import java.util.regex.Pattern;

/** The rules of LANGUAGE.md that can be seen in the text of the class; .ci/run starts it in the project's folder. */
public final class LanguageTest {
    private static final int MOST_LINES = 60, MOST_CLASSES = 12, MOST_FIELDS = 20, MOST_PARAMETERS = 7;
    private static final String[] BANNED = {
        "\\b(package|import|throw|throws|try|catch|synchronized|assert|native|volatile|transient|import)\\b",
        "\\b(protected|sealed|permits|yield|var)\\b",
        "->", "::", "@", "\\bObject\\b", "\\bSystem\\.(?!arraycopy)", "\\bThread\\b", "\\bRandom\\b", "\\bException\\b",
        "\\bhashCode\\b", "\\btoString\\b", "Exact\\b", "\\bnew [A-Za-z]+(<[^>]*>)?\\([^)]*\\) *\\{"
    };

    public static void main(String[] args) throws IOException {
        Check check = new Check("LanguageTest");
        String source = Files.readString(Path.of("src/main/java/SyntaxRepair.java"));
        for (int i = 0; i < source.length(); i++) {
            if (source.charAt(i) > 126) {
                check.due("the sign at " + i, source.charAt(i), 0);
            }
        }
        String code = plain(source);
        for (String banned : BANNED) {
            Matcher matcher = Pattern.compile(banned).matcher(code);
            check.dueText("what " + banned + " finds", matcher.find() ? matcher.group() : "", "");
        }
        check.due("classes, at most " + MOST_CLASSES, Math.max(count(code, "\\b(class|enum|record|interface) [A-Z]"),
            MOST_CLASSES), MOST_CLASSES);
        check.due("static fields that are not final",
            count(code, "(?m)^ *(private |public )?static (?!final)[^(;]*[;=]"), 0);
        blocks(check, code);
        check.end();
    }

    /** The code without its comments, and with nothing in its texts and signs. */
    private static String plain(String source) {
        return source.replaceAll("(?s)/\\*.*?\\*/", "").replaceAll("'(\\\\.|[^'\\\\])'", "' '")
            .replaceAll("\"(\\\\.|[^\"\\\\])*\"", "\"\"").replaceAll("//[^\n]*", "");
    }

    private static int count(String code, String pattern) {
        Matcher matcher = Pattern.compile(pattern).matcher(code);
        int count = 0;
        while (matcher.find()) {
            count++;
        }
        return count;
    }

    /** Looks at the length and parameters of every method and at the number of fields of every class. */
    private static void blocks(Check check, String code) {
        Matcher heads = Pattern.compile("(?m)^ *(?:[a-zA-Z\\[\\]]+ )*([a-zA-Z]+)\\(([^()]*)\\) \\{$").matcher(code);
        int methods = 0;
        while (heads.find()) {
            String name = heads.group(1);
            if (name.matches("if|for|while|switch")) {
                continue;
            }
            methods++;
            String body = code.substring(heads.start(), closing(code, heads.end() - 1));
            check.due("lines of " + name + ", at most " + MOST_LINES,
                Math.max(body.split("\n").length, MOST_LINES), MOST_LINES);
            check.due("parameters of " + name + ", at most " + MOST_PARAMETERS,
                Math.max(heads.group(2).split(",").length, MOST_PARAMETERS), MOST_PARAMETERS);
        }
        check.due("methods are found", methods > 40 ? 1 : 0, 1);
        Matcher classes = Pattern.compile("\\bclass ([A-Za-z]+)[^{]*\\{").matcher(code);
        while (classes.find()) {
            String body = code.substring(classes.end(), closing(code, classes.end() - 1));
            int nested = body.indexOf(" class ");
            String own = nested < 0 ? body : body.substring(0, nested);
            int fields = count(own, "(?m)^ {4,8}private (?!static)[^(\n]*(;| = .*;)$");
            check.due("fields of " + classes.group(1) + ", at most " + MOST_FIELDS,
                Math.max(fields, MOST_FIELDS), MOST_FIELDS);
        }
    }

    private static int closing(String code, int open) {
        int depth = 0;
        for (int i = open; i < code.length(); i++) {
            depth += code.charAt(i) == '{' ? 1 : code.charAt(i) == '}' ? -1 : 0;
            if (depth == 0) {
                return i;
            }
        }
        return code.length();
    }
}
