import java.io.IOException;
import java.nio.charset.StandardCharsets;
import java.nio.file.Files;
import java.nio.file.Path;
import java.util.regex.Matcher;
import java.util.regex.Pattern;

/** Words and signs that LANGUAGE.md keeps out of the program's one file. */
final class LanguageTest {
    private static final Path PROGRAM = Path.of("src", "main", "java", "KeptMoving.java");
    private static final String[] NEVER = {
        "\\bpackage\\b", "\\bimport\\b", "\\bthrow\\b", "\\bthrows\\b", "\\btry\\b", "\\bcatch\\b", "\\bfinally\\b",
        "\\bsynchronized\\b", "\\bassert\\b", "->", "::", "\\bSystem\\.(?!arraycopy)", "\\bThread\\b", "\\bObject\\b",
        "\\bfloat\\b", "\\bdouble\\b", "\\bvar\\b", "\\bprotected\\b", "Exact\\b", "\\.equals\\(", "\\bhashCode\\b",
    };
    private static final String COMMENTS = "(?s)/\\*.*?\\*/|//[^\\n]*";

    public static void main(String[] args) throws IOException {
        Check check = new Check("LanguageTest");
        String text = Files.readString(PROGRAM, StandardCharsets.US_ASCII).replaceAll(COMMENTS, " ");
        for (String word : NEVER) {
            check.due("how often the program has " + word, times(word, text), 0);
        }
        check.due("public classes", times("\\bpublic (final )?class\\b", text), 1);
        check.end();
    }

    private static int times(String word, String text) {
        Matcher matcher = Pattern.compile(word).matcher(text);
        int found = 0;
        while (matcher.find()) {
            found++;
        }
        return found;
    }
}
