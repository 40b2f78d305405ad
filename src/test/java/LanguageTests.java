import java.io.IOException;
import java.nio.file.Files;
import java.nio.file.Path;
import java.util.List;
import java.util.regex.Matcher;
import java.util.regex.Pattern;

/** The source keeps to those rules of LANGUAGE.md that its words show. */
public final class LanguageTests {
    private static final Path SOURCE = Path.of("src", "main", "java", "FaultShrinker.java");
    private static final int LONGEST_METHOD = 60;

    private static final List<String> BANNED = List.of(
        "import", "package", "try", "catch", "finally", "synchronized", "assert", "protected",
        "Object", "Thread", "System", "Random", "\\w+Exact", "MAX_VALUE", "MIN_VALUE");

    private LanguageTests() {
    }

    public static void main(String[] args) throws IOException {
        String text = Files.readString(SOURCE);
        String code = text.replaceAll("(?s)/\\*.*?\\*/", "").replaceAll("//[^\n]*", "");
        for (String word : BANNED) {
            Check.no("the word " + word, Pattern.compile("\\b" + word + "\\b").matcher(code).find());
        }
        for (String sign : List.of("->", "::", "\" +", "+ \"", "static {")) {
            Check.no("the sign " + sign, code.contains(sign));
        }
        Check.yes("signs 1 to 127 alone", text.chars().allMatch(sign -> sign > 0 && sign < 128));
        thrown(code);
        sizes(code);
        Check.end("LanguageTests");
    }

    private static void thrown(String code) {
        Matcher thrown = Pattern.compile("throw\\s+([^;]*);").matcher(code);
        while (thrown.find()) {
            Check.yes(thrown.group(), thrown.group(1).matches(
                "new (IndexOutOfBoundsException|IllegalStateException|IllegalArgumentException)\\(\"[^\"]*\"\\)"));
        }
    }

    private static void sizes(String code) {
        Check.yes("at most twelve classes", Pattern.compile("\\bclass\\b").matcher(code).results().count() <= 12);
        int start = 0;
        String[] lines = code.split("\n");
        for (int at = 0; at < lines.length; at++) {
            if (lines[at].matches(" +(public |private |static )*[\\w\\[\\]]+ \\w+\\(.*\\{")) {
                start = at;
            }
            if (lines[at].matches(" +\\}")) {
                Check.yes("a short method at line " + (start + 1) + " of the code", at - start <= LONGEST_METHOD);
            }
        }
    }
}
