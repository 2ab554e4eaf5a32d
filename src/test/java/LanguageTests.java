import java.io.IOException;
import java.nio.file.Files;
import java.nio.file.Path;
import java.util.List;
import java.util.regex.Matcher;
import java.util.regex.Pattern;

/** Words that LANGUAGE.md rules out must not stand in the source; its path is the first argument. */
public final class LanguageTests {
    private static final String[] BANNED = {
        "\\b(?:throw|throws|try|catch|finally|synchronized|assert|native|volatile|transient)\\b", "->", "::", "\\bhashCode\\b",
        "\\btoString\\b", "\\w+Exact\\b", "\\bpackage\\b", "\\bprotected\\b", "\\bstatic\\s*\\{", "\\bLong\\.MAX", "\\bInteger\\.M",
        "\\bThread\\b", "\\bSystem\\.(?!arraycopy\\b)", "\\bObject\\b", "\\bvar\\b", "\\bdouble\\b", "\\bfloat\\b"};

    public static void main(String[] args) throws IOException {
        Check check = new Check();
        String source = Files.readString(Path.of(args.length > 0 ? args[0] : "src/main/java/SungLines.java"));
        String code = source.replaceAll("(?s)/\\*.*?\\*/", "").replaceAll("//[^\n]*", "");
        for (String banned : BANNED) {
            Matcher m = Pattern.compile(banned).matcher(code);
            check.that("no " + banned + " in the code", !m.find());
        }
        for (String line : code.split("\n")) {
            if (line.startsWith("import")) {
                check.that(line, List.of("import java.util.Arrays;", "import java.util.ArrayList;", "import java.util.List;").contains(line.trim()));
            }
            check.that("signs of " + line, line.chars().allMatch(c -> c >= 32 && c < 127));
        }
        methodsAreShort(code, check);
        check.end("LanguageTests");
    }

    /** A method begins with a line that opens a brace at one of the depths at which members stand. */
    private static void methodsAreShort(String code, Check check) {
        int begun = -1;
        String[] lines = code.split("\n");
        for (int k = 0; k < lines.length; k++) {
            if (lines[k].matches(" {4}(?: {4})?\\w.*\\) \\{")) {
                begun = k;
            }
            if (lines[k].matches(" {4}(?: {4})?\\}") && begun >= 0) {
                check.that("short: " + lines[begun].trim(), k - begun <= 60);
                begun = -1;
            }
        }
    }
}
