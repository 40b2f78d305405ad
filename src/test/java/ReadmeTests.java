import java.io.IOException;
import java.nio.file.Files;
import java.nio.file.Path;
import java.util.List;

/** README.md holds this example, line for line, and the program answers it as README.md says. */
public final class ReadmeTests {
    private static final List<String> LINES = List.of(
        "for (int kind : new int[] {3, 1, 4, 1, 5, 9, 2, 6}) {",
        "    finder.add(kind);",
        "int rule = finder.rule();",
        "finder.setNeeds(rule, 4, true);",
        "finder.setNeeds(rule, 6, true);",
        "finder.spoils(132);   // true: ",
        "finder.shrink();      // 16 tastings",
        "finder.kept(0);       // 2, ",
        "finder.kept(1);       // 7",
        "finder.would(4);      // 9 tastings, ");

    private ReadmeTests() {
    }

    public static void main(String[] args) throws IOException {
        String text = Files.readString(Path.of("README.md"));
        for (String line : LINES) {
            Check.yes("README.md has the line: " + line, text.contains("\n" + line));
        }
        FaultShrinker finder = Make.recipeOf(3, 1, 4, 1, 5, 9, 2, 6);
        int rule = finder.rule();
        finder.setNeeds(rule, 4, true);
        finder.setNeeds(rule, 6, true);
        Check.yes("spoils(132)", finder.spoils(132));
        Check.same("shrink()", finder.shrink(), 16);
        Check.same("kept(0)", finder.kept(0), 2);
        Check.same("kept(1)", finder.kept(1), 7);
        Check.same("would(4)", finder.would(4), 9);
        for (var method : FaultShrinker.class.getMethods()) {
            if (method.getDeclaringClass() == FaultShrinker.class) {
                Check.yes("README.md tells of " + method.getName() + "(", text.contains("| `" + method.getName() + "(")
                    || text.contains(", `" + method.getName() + "("));
            }
        }
        Check.end("ReadmeTests");
    }
}
