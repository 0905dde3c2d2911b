import java.nio.file.Files;
import java.nio.file.Path;
import java.util.regex.Matcher;
import java.util.regex.Pattern;

// The source of the class against what can be seen of ../shared/LANGUAGE.md from its words alone.
public final class LanguageTest {
    private static int wrong = 0;

    private static void report(String what) {
        wrong++;
        System.out.println(what);
    }

    private static void noneOf(String code, String... patterns) {
        for (String pattern : patterns) {
            Matcher m = Pattern.compile(pattern).matcher(code);
            if (m.find()) {
                report("outside the language: " + m.group());
            }
        }
    }

    private static int linesOf(String code, int from) {
        int depth = 0;
        int lines = 1;
        for (int i = code.indexOf('{', from); i < code.length(); i++) {
            char c = code.charAt(i);
            depth += c == '{' ? 1 : c == '}' ? -1 : 0;
            lines += c == '\n' ? 1 : 0;
            if (depth == 0) {
                break;
            }
        }
        return lines;
    }

    public static void main(String[] args) throws Exception {
        String source = Files.readString(Path.of("src/main/java/SewnUp.java"));
        for (int i = 0; i < source.length(); i++) {
            if (source.charAt(i) > 126) {
                report("a sign outside ASCII at " + i);
            }
        }
        String code = source.replaceAll("(?s)/\\*.*?\\*/", "").replaceAll("//[^\n]*", "")
            .replaceAll("\"[^\"\n]*\"", "\"\"").replaceAll("'[^']'", "' '");
        noneOf(code, "\\b(import|package|throw|throws|try|catch|finally|synchronized|assert|volatile|native)\\b",
            "->", "::", "\\bstatic\\s*\\{", "\\b(Exact|System\\.(?!arraycopy)|Object|Runnable|Thread)",
            "\\b(equals|hashCode|toString)\\(", "\"\" \\+", "\\+ \"\"", "\\bInteger\\.(?!bitCount)");
        int classes = 0;
        Matcher c = Pattern.compile("\\b(class|enum|interface|record) [A-Z]").matcher(code);
        while (c.find()) {
            classes++;
        }
        if (classes > 12) {
            report("classes: " + classes);
        }
        Matcher m = Pattern.compile("(?m)^ +(?:[a-z]+ )*[A-Za-z\\[\\]]+ (\\w+)\\(([^)]*)\\) \\{").matcher(code);
        int methods = 0;
        while (m.find()) {
            methods++;
            if (m.group(2).split(",").length > 7) {
                report("parameters of " + m.group(1));
            }
            if (linesOf(code, m.start()) > 60) {
                report("lines of " + m.group(1));
            }
        }
        if (methods < 28) {
            report("methods seen: " + methods);
        }
        System.out.println(wrong == 0 ? "the language is kept to" : wrong + " places are outside the language");
        if (wrong != 0) {
            System.exit(1);
        }
    }
}
