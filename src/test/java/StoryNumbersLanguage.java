import java.io.IOException;
import java.lang.reflect.Field;
import java.lang.reflect.Modifier;
import java.nio.file.Files;
import java.nio.file.Path;
import java.util.HashMap;
import java.util.Map;
import java.util.TreeSet;
import java.util.regex.Matcher;
import java.util.regex.Pattern;

/** Looks through the source for what ../shared/LANGUAGE.md rules out, as far as plain patterns can tell. */
public final class StoryNumbersLanguage {
    private static final String SOURCE = "src/main/java/StoryNumbers.java";
    private static final String DOCUMENT = "../shared/DOC.md";
    private static final Pattern METHOD = Pattern.compile("\n( {4}| {8})[^ \n}][^\n;=]*?(\\w+)\\(([^)]*)\\) \\{\n");
    private static final int MOST_LINES = 60;
    private static final int MOST_PARAMETERS = 7;
    private static final int MOST_CLASSES = 12;
    private static final int MOST_FIELDS = 20;
    private static final int DEEPEST = 8;
    private static int wrong = 0;

    private static void none(String code, String rule, String pattern) {
        Matcher m = Pattern.compile(pattern).matcher(code);
        while (m.find()) {
            wrong(rule, "'" + m.group() + "' in line " + lineOf(code, m.start()));
        }
    }

    private static long lineOf(String code, int at) {
        return 1 + code.substring(0, at).chars().filter(c -> c == '\n').count();
    }

    /** Comments and what stands in quotes become blanks, so that line numbers stay. */
    private static String bare(String source) {
        Matcher m = Pattern.compile("(?s)/\\*.*?\\*/|//[^\n]*|\"(\\\\.|[^\"\\\\])*\"|'(\\\\.|[^'\\\\])'").matcher(source);
        return m.replaceAll(r -> r.group().replaceAll("[^\n]", " "));
    }

    private static void wrong(String rule, String what) {
        wrong++;
        System.out.println("rule " + rule + ": " + what);
    }

    private static int endOf(String code, Matcher method) {
        return code.indexOf("\n" + method.group(1) + "}", method.end() - 1);
    }

    private static void shortMethods(String code) {
        Matcher m = METHOD.matcher(code);
        int methods = 0;
        while (m.find()) {
            methods++;
            long first = lineOf(code, m.start() + 1);
            if (lineOf(code, endOf(code, m)) - first + 1 > MOST_LINES || m.group(3).split(",").length > MOST_PARAMETERS) {
                wrong("11", "a long method in line " + first);
            }
        }
        if (methods < 28) {
            wrong("11", "only " + methods + " methods were found to look at");
        }
    }

    /** Which methods each method names; methods of one name count as one, which can only make calls look deeper. */
    private static Map<String, TreeSet<String>> calls(String code) {
        Map<String, TreeSet<String>> calls = new HashMap<>();
        Matcher m = METHOD.matcher(code);
        while (m.find()) {
            TreeSet<String> named = calls.computeIfAbsent(m.group(2), name -> new TreeSet<>());
            Matcher call = Pattern.compile("\\b(\\w+)\\(").matcher(code.substring(m.end(), endOf(code, m) + 1));
            while (call.find()) {
                named.add(call.group(1));
            }
        }
        return calls;
    }

    private static int depth(Map<String, TreeSet<String>> calls, String name, int above) {
        int deepest = above + 1;
        for (String called : calls.get(name)) {
            // a method that comes to itself again stops one beyond the bound
            if (calls.containsKey(called) && deepest <= DEEPEST) {
                deepest = Math.max(deepest, depth(calls, called, above + 1));
            }
        }
        return deepest;
    }

    private static void shallowCalls(String code) {
        Map<String, TreeSet<String>> calls = calls(code);
        for (String name : calls.keySet()) {
            if (depth(calls, name, 0) > DEEPEST) {
                wrong("8 or 11", name + " goes deeper than " + DEEPEST + " calls, or comes to itself");
            }
        }
    }

    private static void fewFields(Class<?> type) {
        int fields = 0;
        for (Field f : type.getDeclaredFields()) {
            fields += Modifier.isStatic(f.getModifiers()) ? 0 : 1;
            if (Modifier.isStatic(f.getModifiers()) && !Modifier.isFinal(f.getModifiers())) {
                wrong("5", "static and not final: " + f);
            }
        }
        if (fields > MOST_FIELDS) {
            wrong("11", type + " has " + fields + " fields");
        }
    }

    private static void fewClasses() {
        Class<?>[] inside = StoryNumbers.class.getDeclaredClasses();
        if (inside.length + 1 > MOST_CLASSES) {
            wrong("11", inside.length + 1 + " classes");
        }
        fewFields(StoryNumbers.class);
        for (Class<?> type : inside) {
            fewFields(type);
            if (!Modifier.isStatic(type.getModifiers()) || type.getDeclaredClasses().length > 0) {
                wrong("2", type + " is not static, or has classes inside");
            }
        }
    }

    /** The face is the document's, word by word, and nothing else is public. */
    private static void theFace(String source, String document) {
        TreeSet<String> due = publicRows(document);
        TreeSet<String> got = publicRows(source);
        if (due.size() != 31 || !due.equals(got)) {
            wrong("1", "public are " + got + ", due are " + due);
        }
    }

    private static TreeSet<String> publicRows(String text) {
        TreeSet<String> rows = new TreeSet<>();
        Matcher m = Pattern.compile("(?m)^ *(public [^\n{;]*?) ?[{;]").matcher(text);
        while (m.find()) {
            rows.add(m.group(1));
        }
        return rows;
    }

    public static void main(String[] args) throws IOException {
        String source = Files.readString(Path.of(SOURCE));
        String code = bare(source);
        none(source, "4", "[^\\x00-\\x7f]");
        none(code, "1", "\\b(package|protected)\\b");
        none(code, "2", "->|::|\\bnew \\w+\\([^)]*\\) \\{|(?<!static )(?<!static final )(?<!public final )\\bclass\\b");
        none(code, "3", "\\b(double|float|Object|Long|Map|Set|HashMap|Random|Scanner|BigInteger)\\b(?!\\.)|\\bString\\[|\\[\\]\\[\\]\\[\\]");
        none(code, "4", "\\bimport (?!java\\.util\\.(ArrayList|List|Arrays|Iterator);)|\\w+Exact\\b|\\bSystem\\.(?!arraycopy)");
        none(code, "5", "\\bstatic (?!final|boolean|int|long|void)\\w+|\\bstatic (int|long|boolean|char|String)(\\[\\])* \\w+( =|;|,)");
        none(code, "6", "\\b(throw|throws|try|catch|finally|synchronized|assert|hashCode|toString|equals)\\b");
        none(code, "9", "\\b(while|for) ?\\((true|;;)");
        theFace(code, Files.readString(Path.of(DOCUMENT)));
        shortMethods(code);
        shallowCalls(code);
        fewClasses();
        System.out.println("language: " + wrong + " wrong");
        if (wrong != 0) {
            System.exit(1);
        }
    }
}
