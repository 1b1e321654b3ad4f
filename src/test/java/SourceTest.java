import java.io.IOException;
import java.nio.file.Files;
import java.nio.file.Path;
import java.util.List;
import java.util.regex.Matcher;
import java.util.regex.Pattern;

/** What of ../shared/LANGUAGE.md can be seen from the lines of the program; run in the project's folder. */
final class SourceTest {
    private static final String[] RULED_OUT = {
        "\\bimport\\b", "\\bpackage\\b", "\\btry\\b", "\\bcatch\\b", "\\bfinally\\b", "\\bsynchronized\\b",
        "\\bassert\\b", "->", "::", "Exact\\b", "\\bstatic\\s*\\{", "\\bstatic\\s+(?!final\\b)[\\w\\[\\]]+\\s+\\w+\\s*[=;]",
        "\"\\s*\\+", "\\+\\s*\"", "\\bObject\\b", "\\bThread\\b", "\\bSystem\\.(?!arraycopy\\b)", "\\bhashCode\\b",
        "\\btoString\\b", "\\bNaN\\b", "\\bfloat\\b", "\\binstanceof\\b", "\\bwhile\\s*\\(true",
    };
    private static final Pattern METHOD = Pattern.compile("^( {4}| {8})(?! )[\\w\\[\\]<> ]+\\([^;]*$");

    private SourceTest() {
    }

    public static void main(String[] args) throws IOException {
        List<String> lines = Files.readAllLines(Path.of("src/main/java/MaskPlays.java"));
        int beginning = -1;
        String end = "";
        for (int n = 0; n < lines.size(); n++) {
            String line = lines.get(n);
            String code = line.trim().startsWith("*") || line.trim().startsWith("/") ? "" : line;
            for (String pattern : RULED_OUT) {
                Matcher matcher = Pattern.compile(pattern).matcher(code);
                Dues.due("line " + (n + 1) + " has " + pattern, matcher.find(), false);
            }
            Dues.due("line " + (n + 1) + " is ASCII", line.chars().allMatch(sign -> sign < 127), true);
            Matcher method = METHOD.matcher(code);
            if (method.matches() && !code.contains(" class ")) {
                beginning = n;
                end = method.group(1) + "}";
            } else if (beginning >= 0 && code.equals(end)) {
                Dues.due("lines of the method at " + (beginning + 1), n - beginning < 60, true);
                beginning = -1;
            }
        }
        Dues.end();
    }
}
