import java.nio.file.Files;
import java.nio.file.Path;
import java.util.List;
import java.util.regex.Matcher;
import java.util.regex.Pattern;

/** What of LANGUAGE.md shows in the source's own lines; it is run from the project's root. */
public final class LanguageTest {
    private static final Due D = new Due();

    public static void main(String[] args) throws Exception {
        String source = Files.readString(Path.of("src/main/java/ScythesKeepStep.java"));
        String code = bare(source);
        for (String word : List.of("throw", "throws", "try", "catch", "synchronized", "assert", "import", "package",
            "protected", "volatile", "System\\.(?!arraycopy)", "\\w+Exact", "Exception", "Error", "Object", "var",
            "equals", "hashCode", "toString", "interface\\s+\\w+\\s*<\\s*\\?", "Thread", "Class", "null")) {
            D.holds("no " + word, !Pattern.compile("\\b" + word).matcher(code).find());
        }
        for (String sign : List.of("->", "::", "@", "static\\s*\\{")) {
            D.holds("no " + sign, !Pattern.compile(sign).matcher(code).find());
        }
        D.holds("joined by no +", !Pattern.compile("\"\\s*\\+|\\+\\s*\"").matcher(code).find());
        D.holds("signs 1 to 127", source.chars().allMatch(c -> c > 0 && c < 128));
        D.holds("some twelve classes", Pattern.compile("\\bclass\\b").matcher(code).results().count() <= 12);
        methodsAreShort(code);
        D.end();
    }

    /** The source without comments, texts and characters. */
    private static String bare(String source) {
        String s = source.replaceAll("(?s)/\\*.*?\\*/", "").replaceAll("//[^\\n]*", "");
        return s.replaceAll("\"(?:\\\\.|[^\"\\\\])*\"", "\"\"").replaceAll("'(?:\\\\.|[^'\\\\])'", "' '");
    }

    private static void methodsAreShort(String code) {
        Matcher m = Pattern.compile("\\n( +)[\\w\\[\\] ]+\\([^()]*\\) \\{\\n(.*?)\\n\\1\\}\\n", Pattern.DOTALL)
            .matcher(code);
        int at = 0;
        int found = 0;
        while (m.find(at)) {
            if (m.group(1).length() <= 8 && !m.group().contains(" class ")) {
                found++;
                D.holds("short: " + m.group().strip().split("\\n")[0], m.group(2).split("\\n").length <= 60);
            }
            at = m.start() + 1;
        }
        D.holds("methods found: " + found, found > 90);
    }
}
