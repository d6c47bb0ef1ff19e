import java.io.IOException;
import java.io.UncheckedIOException;
import java.nio.charset.StandardCharsets;
import java.nio.file.Files;
import java.nio.file.Path;
import java.util.List;
import java.util.regex.Pattern;

/** The rules of LANGUAGE.md that a line of the source can break. */
final class SourceTest {
    private static final Path SOURCE = Path.of("src/main/java/DyeVats.java");
    private static final String[] RULED_OUT = {
        "\\bimport\\b", "\\bpackage\\b", "\\bprotected\\b", "\\bsynchronized\\b", "\\bassert\\b", "\\bfinally\\b",
        "^(?!.*\\b(case|default)\\b).*->", "::", "Exact\\b", "\\bhashCode\\b", "\\bDouble\\.", "\\bFloat\\.",
        "\\bSystem\\.(?!arraycopy)", "\\bThread\\b", "\\bstatic \\{",
        "\\bstatic (?!final\\b)(int|long|boolean|String|double)\\b[^(]*[=;]",
    };

    private SourceTest() { }

    static void run() {
        Check.test("nothing stands in the source that is ruled out", SourceTest::ruledOut);
        Check.test("methods are short", SourceTest::shortMethods);
    }

    private static void ruledOut() {
        for (String line : lines()) {
            for (String pattern : RULED_OUT) {
                Check.due(pattern + " in " + line, 0, Pattern.compile(pattern).matcher(line).find() ? 1 : 0);
            }
            Check.due("signs of " + line, 1, line.chars().allMatch(sign -> sign >= 32 && sign < 127) ? 1 : 0);
        }
    }

    private static void shortMethods() {
        int begin = 0;
        List<String> lines = lines();
        for (int i = 0; i < lines.size(); i++) {
            if (lines.get(i).matches("    (    )?[\\w\\[\\] ]+\\(.*")) {
                begin = i;
            }
            if (lines.get(i).matches("    (    )?}")) {
                Check.due("a method of 60 lines at most, at line " + begin, 1, i - begin <= 60 || begin == 0 ? 1 : 0);
                begin = 0;
            }
        }
    }

    private static List<String> lines() {
        try {
            return Files.readAllLines(SOURCE, StandardCharsets.ISO_8859_1);
        } catch (IOException e) {
            throw new UncheckedIOException(e);
        }
    }
}
