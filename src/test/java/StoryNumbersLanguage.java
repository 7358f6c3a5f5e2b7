import java.io.IOException;
import java.nio.file.Files;
import java.nio.file.Path;
import java.util.regex.Matcher;
import java.util.regex.Pattern;

/** Looks through the source for what ../shared/LANGUAGE.md rules out, as far as plain patterns can tell. */
public final class StoryNumbersLanguage {
    private static final String SOURCE = "src/main/java/StoryNumbers.java";
    private static final int MOST_LINES = 60;
    private static int wrong = 0;

    private static void none(String code, String rule, String pattern) {
        Matcher m = Pattern.compile(pattern).matcher(code);
        while (m.find()) {
            wrong++;
            System.out.println("rule " + rule + ": '" + m.group() + "' in line " + lineOf(code, m.start()));
        }
    }

    private static long lineOf(String code, int at) {
        return 1 + code.substring(0, at).chars().filter(c -> c == '\n').count();
    }

    /** Comments and what stands in quotes become blanks, so that line numbers stay. */
    private static String bare(String source) {
        Matcher m = Pattern.compile("(?s)/\\*.*?\\*/|//[^\n]*|\"(\\\\.|[^\"\\\\])*\"|'(\\\\.|[^'\\\\])'").matcher(source);
        return m.replaceAll(r -> r.group().replaceAll("[^\n]", " "));
    }

    private static void shortMethods(String code) {
        Matcher m = Pattern.compile("\n( {4}| {8})[^ \n}][^\n;=]*\\(([^)]*)\\) \\{\n").matcher(code);
        while (m.find()) {
            int end = code.indexOf("\n" + m.group(1) + "}", m.end() - 1);
            long lines = lineOf(code, end) - lineOf(code, m.start() + 1) + 1;
            if (lines > MOST_LINES || m.group(2).split(",").length > 7) {
                wrong++;
                System.out.println("rule 11: a long method in line " + lineOf(code, m.start() + 1));
            }
        }
    }

    public static void main(String[] args) throws IOException {
        String source = Files.readString(Path.of(SOURCE));
        String code = bare(source);
        none(source, "4", "[^\\x00-\\x7f]");
        none(code, "1", "\\b(package|protected)\\b");
        none(code, "2", "->|::|\\bnew \\w+\\([^)]*\\) \\{|(?<!static )(?<!static final )(?<!public final )\\bclass\\b");
        none(code, "3", "\\b(double|float|Object|Long|Map|Set|HashMap|Random|Scanner|BigInteger)\\b(?!\\.)|\\bString\\[|\\[\\]\\[\\]\\[\\]");
        none(code, "4", "\\bimport (?!java\\.util\\.(ArrayList|List|Arrays|Iterator);)|\\w+Exact\\b|\\bSystem\\.(?!arraycopy)");
        none(code, "5", "\\bstatic (?!final|boolean|int|long|void)\\w+|\\bstatic (int|long|boolean|char|String)(\\[\\])* \\w+( =|;|,)");
        none(code, "6", "\\b(throw|throws|try|catch|finally|synchronized|assert|hashCode|toString|equals)\\b");
        none(code, "9", "\\b(while|for) ?\\((true|;;)");
        shortMethods(code);
        System.out.println("language: " + wrong + " wrong");
        if (wrong != 0) {
            System.exit(1);
        }
    }
}
