import java.io.IOException;
import java.io.UncheckedIOException;
import java.nio.file.Files;
import java.nio.file.Path;
import java.util.Arrays;
import java.util.LinkedHashMap;
import java.util.Map;

/**
 * The sentences of ../shared/DOC.md by its sections, and which of them a test is of. So it can be
 * seen that no test is of a sentence that doesn't stand there, and that no sentence is without one.
 */
final class Sentences {
    private static final Map<String, String> SECTIONS = sections();
    /** Of each sign of a section, whether it stands in a sentence that was named. */
    private static final Map<String, boolean[]> NAMED = new LinkedHashMap<>();
    private Sentences() {
    }

    /** The test is of this sentence. If it throws, it fails, and the others are run all the same. */
    static void of(String section, String sentence, Runnable test) {
        name(section, sentence);
        Dues.about("(" + section + ": " + sentence + ") ");
        int before = Dues.asked();
        try {
            test.run();
        } catch (RuntimeException e) {
            Dues.due("a call at " + lineOfTest(e), e.toString(), "no exception");
        }
        Dues.due("answers that were asked for", Dues.asked() > before, true);
        Dues.about("");
    }

    private static String lineOfTest(RuntimeException e) {
        for (StackTraceElement call : e.getStackTrace()) {
            if (call.getClassName().startsWith("Bounds")) {
                return call.toString();
            }
        }
        return "no line of a test";
    }

    /** A sentence that names nothing which an answer could miss. */
    static void needsNoTest(String section, String sentence) {
        name(section, sentence);
    }

    static void needsNoTestOfAll(String section) {
        name(section, SECTIONS.getOrDefault(section, "no such section"));
    }

    private static void name(String section, String sentence) {
        String text = SECTIONS.getOrDefault(section, "");
        int from = text.indexOf(sentence);
        Dues.due("the document says in " + section + ": " + sentence, from >= 0, true);
        boolean[] named = NAMED.computeIfAbsent(section, any -> new boolean[text.length()]);
        while (from >= 0) {
            Arrays.fill(named, from, from + sentence.length(), true);
            from = text.indexOf(sentence, from + 1);
        }
    }

    static void dueThatNoneIsLeft() {
        for (String section : SECTIONS.keySet()) {
            String text = SECTIONS.get(section);
            boolean[] named = NAMED.getOrDefault(section, new boolean[text.length()]);
            StringBuilder left = new StringBuilder();
            for (int i = 0; i < text.length(); i++) {
                left.append(named[i] ? ' ' : text.charAt(i));
            }
            Dues.due("left of " + section, left.toString().trim().replaceAll(" +", " "), "");
        }
    }

    private static Map<String, String> sections() {
        Map<String, String> sections = new LinkedHashMap<>();
        String section = "";
        for (String line : linesOfDocument()) {
            if (line.startsWith("#") || line.startsWith("== ")) {
                section = line.replaceFirst("^(#+|==) ", "").replaceFirst("^(Promise \\d+): .*", "$1");
                sections.put(section, "");
            } else if (!line.startsWith("```")) {
                String sentences = withoutFace(line).trim().replaceAll(" +", " ");
                sections.merge(section, sentences, (all, more) -> (all + " " + more).trim());
            }
        }
        return sections;
    }

    /** Without the face of a call, and without parameters of which no number is said. */
    private static String withoutFace(String line) {
        String behind = line.replaceFirst("^`[^`]*\\)( throws [^`]*)?`: ", "");
        return behind.matches("- `\\w+`: \\D*") ? "" : behind;
    }

    private static Iterable<String> linesOfDocument() {
        try {
            return Files.readAllLines(Path.of("../shared/DOC.md"));
        } catch (IOException e) {
            throw new UncheckedIOException(e);
        }
    }
}
