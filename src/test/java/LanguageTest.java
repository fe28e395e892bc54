import java.io.IOException;
import java.nio.file.Files;
import java.nio.file.Path;
import java.util.TreeSet;
import java.util.regex.Matcher;
import java.util.regex.Pattern;

/** Rules of LANGUAGE.md that can be seen in the source, read from the folder of the project. */
public final class LanguageTest {
    public static void main(String[] args) throws IOException {
        String source = Files.readString(Path.of("src/main/java/MatchingGraph.java"));
        String code = withoutTexts(source);
        none(code, "rule 2: lambda or method reference", "->|::");
        none(code, "rule 4: import", "\\bimport\\b(?! java\\.util\\.Arrays;)");
        none(code, "rule 4: library", "\\b(System\\.(?!arraycopy)|Arrays\\.(?!fill|copyOf)|\\w+Exact\\b)");
        none(code, "rule 5: static state", "\\bstatic\\s+(?!final\\b)(int|long|boolean|double|char)(\\[\\])*\\s+\\w+\\s*[=;]");
        none(code, "rule 5: static block", "\\bstatic\\s*\\{");
        none(code, "rule 6: not in the language",
                "\\b(try|catch|finally|assert|synchronized|var|record|instanceof|protected|package)\\b");
        none(code, "rule 6: throw", "\\bthrow\\b(?! new (IllegalStateException|IllegalArgumentException"
                + "|IndexOutOfBoundsException)\\()");
        none(code, "rule 9: a loop without an end", "while \\(true\\)|for \\(;;\\)");
        none(code, "rule 13: clock, chance or thread", "\\b(Random|Thread|nanoTime|currentTimeMillis)\\b");
        none(source, "other characters than printed ones", "[^\\n -~]");
        methodsAreShort(code);
        Check.end("LanguageTest");
    }

    private static String withoutTexts(String source) {
        return source.replaceAll("(?s)/\\*.*?\\*/", "").replaceAll("//[^\\n]*", "")
                .replaceAll("\"[^\"\\n]*\"", "\"\"");
    }

    private static void none(String code, String rule, String pattern) {
        TreeSet<String> found = new TreeSet<>();
        Matcher matcher = Pattern.compile(pattern).matcher(code);
        while (matcher.find()) {
            found.add(code.substring(matcher.start(), Math.min(matcher.end() + 30, code.length())));
        }
        Check.due(rule, found.toString(), "[]");
    }

    /** Rule 11, for methods that are indented as they are here. */
    private static void methodsAreShort(String code) {
        Matcher matcher = Pattern.compile("(?m)^( {4}| {8})(?=\\w)[^;=\\n]*\\([^;]*?\\{\\n(?s:.*?)\\n\\1\\}").matcher(code);
        int methods = 0;
        while (matcher.find()) {
            methods++;
            int lines = matcher.group().split("\n").length;
            Check.due("rule 11: a short method, " + matcher.group().split("\n")[0], lines <= 45, true);
        }
        Check.due("methods were found", methods > 60, true);
    }
}
