import java.io.IOException;
import java.nio.file.Files;
import java.nio.file.Path;
import java.util.List;
import java.util.regex.Matcher;
import java.util.regex.Pattern;

/** What of ../shared/LANGUAGE.md can be seen in the program's text. FaceTest looks at rule 1. */
public final class LanguageTest {
    private static final Path PROGRAM = Path.of("src/main/java/DroverTracks.java");
    private static final List<String> IMPORTS = List.of("java.util.Arrays", "java.util.NoSuchElementException");
    private static final List<String> EXCEPTIONS = List.of("IllegalStateException", "IllegalArgumentException",
            "IndexOutOfBoundsException", "ArithmeticException", "UnsupportedOperationException",
            "NoSuchElementException");
    private static final String[] NOT_WRITTEN = {
        "\\btry\\b", "\\bcatch\\b", "\\bfinally\\b", "->", "::", "\\bsynchronized\\b", "\\bassert\\b", "static \\{",
        "\\bpackage\\b", "\\binstanceof\\b", "\\bFloat\\.", "\\bDouble\\.", "\\bSystem\\.(?!arraycopy)", "Exact\\(",
        "\\bequals\\b", "\\bhashCode\\b", "\\btoString\\b", "\\bStringBuilder\\b", "[^\\x00-\\x7f]",
    };

    public static void main(String[] args) throws IOException {
        List<String> lines = Files.readAllLines(PROGRAM);
        String code = withoutComments(lines);
        for (String sign : NOT_WRITTEN) {
            Check.due("written: " + sign, false, Pattern.compile(sign).matcher(code).find());
        }
        checkEach(code, "import ([\\w.]+);", IMPORTS);
        checkEach(code, "throw (?:new )?(\\w+)\\(\"", EXCEPTIONS);
        Check.due("each throw makes its exception", count(code, "\\bthrow\\b"), count(code, "throw new \\w+\\(\""));
        checkObjects(lines);
        checkLengths(lines);
        Check.end("LanguageTest");
    }

    private static String withoutComments(List<String> lines) {
        return String.join("\n", lines).replaceAll("(?s)/\\*.*?\\*/", "").replaceAll("//[^\n]*", "");
    }

    private static int count(String code, String pattern) {
        return (int) Pattern.compile(pattern).matcher(code).results().count();
    }

    private static void checkEach(String code, String pattern, List<String> allowed) {
        Matcher matcher = Pattern.compile(pattern).matcher(code);
        while (matcher.find()) {
            Check.due(matcher.group() + " is allowed", true, allowed.contains(matcher.group(1)));
        }
    }

    /** All calls of a run share one room: only constructors make objects, but for what is thrown. */
    private static void checkObjects(List<String> lines) {
        boolean isInConstructor = false;
        for (String line : lines) {
            if (line.matches(" +(public )?[A-Z]\\w+\\(\\) \\{")) {
                isInConstructor = true;
            } else if (line.matches("( {4}){1,2}\\}")) {
                isInConstructor = false;
            }
            if (line.matches(".*\\bnew\\b.*;")) {
                boolean isThrown = line.contains("throw new ");
                Check.due("made: " + line.trim(), true, isThrown != isInConstructor);
            }
        }
    }

    /** Methods of some sixty lines at most. */
    private static void checkLengths(List<String> lines) {
        int start = 0;
        for (int i = 0; i < lines.size(); i++) {
            String line = lines.get(i);
            if (line.matches("( {4}){1,2}[^ ].*\\) (throws .*)?\\{")) {
                start = i;
            } else if (line.matches("( {4}){1,2}\\}")) {
                Check.due("short, at line " + (start + 1), true, i - start <= 60);
            }
            Check.due("width of line " + (i + 1), true, line.length() <= 120);
        }
    }
}
