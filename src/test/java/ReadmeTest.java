import java.io.File;
import java.io.IOException;
import java.lang.reflect.Method;
import java.lang.reflect.Modifier;
import java.nio.file.Files;
import java.nio.file.Path;
import java.util.ArrayList;
import java.util.Arrays;
import java.util.List;
import java.util.regex.Matcher;
import java.util.regex.Pattern;
import java.util.stream.Collectors;
import java.util.stream.Stream;

/** README.md names all calls and tests, its commands run, and its example prints what stands there. */
final class ReadmeTest {
    private static final Path PROGRAM = Path.of("src/main/java/MaskPlays.java");
    private static final Pattern ROW = Pattern.compile("\\| `(\\w+)\\(([^)]*)\\)` \\| ([^|]+) \\| ([^|]+) \\|");

    private ReadmeTest() {
    }

    public static void main(String[] args) throws IOException, InterruptedException {
        List<String> lines = Files.readAllLines(Path.of("README.md"));
        lookAtCalls(lines);
        lookAtTests(String.join("\n", lines));
        List<String> commands = blocks(lines, "sh");
        Dues.due("blocks of commands", commands.size(), 2);
        if (commands.size() == 2) {
            runExample(commands.get(0), blocks(lines, "java"), blocks(lines, "text"));
            run(commands.get(1), Path.of("."));
        }
        Dues.end();
    }

    /** Each call has one row, with its parameters and what it throws, in the order of the document. */
    private static void lookAtCalls(List<String> lines) {
        List<String> rows = new ArrayList<>();
        for (String line : lines) {
            Matcher row = ROW.matcher(line);
            if (row.matches()) {
                int parameters = row.group(2).isEmpty() ? 0 : row.group(2).split(", ").length;
                rows.add(row.group(1) + " " + parameters + " " + thrownIn(row.group(4)));
            }
        }
        List<String> calls = new ArrayList<>();
        for (Method method : MaskPlays.class.getDeclaredMethods()) {
            if (Modifier.isPublic(method.getModifiers())) {
                calls.add(method.getName() + " " + method.getParameterCount() + " " + declaredBy(method));
            }
        }
        rows.sort(null);
        calls.sort(null);
        Dues.due("calls in README.md", rows.toString(), calls.toString());
    }

    private static String thrownIn(String column) {
        List<String> thrown = new ArrayList<>();
        Matcher exception = Pattern.compile("\\w+Exception").matcher(column);
        while (exception.find()) {
            thrown.add(exception.group());
        }
        return thrown.isEmpty() ? column : String.join(", ", thrown);
    }

    private static String declaredBy(Method method) {
        String thrown = Arrays.stream(method.getExceptionTypes()).map(Class::getSimpleName)
                .collect(Collectors.joining(", "));
        return thrown.isEmpty() ? "nothing" : thrown;
    }

    private static void lookAtTests(String readme) throws IOException {
        Dues.due("the script of all tests", readme.contains("\n.ci/run\n"), true);
        try (Stream<Path> files = Files.list(Path.of("src/test/java"))) {
            for (Path file : (Iterable<Path>) files::iterator) {
                String name = file.getFileName().toString().replace(".java", "");
                Dues.due("README.md names " + name, readme.matches("(?s).*\\b" + name + "\\b.*"), true);
            }
        }
    }

    /** The blocks of this kind, without the lines around them. */
    private static List<String> blocks(List<String> lines, String kind) {
        List<String> blocks = new ArrayList<>();
        StringBuilder block = null;
        for (String line : lines) {
            if (line.equals("```" + kind)) {
                block = new StringBuilder();
            } else if (block != null && line.equals("```")) {
                blocks.add(block.toString());
                block = null;
            } else if (block != null) {
                block.append(line).append('\n');
            }
        }
        return blocks;
    }

    private static void runExample(String commands, List<String> example, List<String> printed)
            throws IOException, InterruptedException {
        Dues.due("examples", example.size(), 1);
        Dues.due("what it prints", printed.size(), 1);
        Path folder = Files.createTempDirectory("readme");
        try {
            Files.copy(PROGRAM, folder.resolve("MaskPlays.java"));
            Files.writeString(folder.resolve("Example.java"), String.join("", example));
            Dues.due("the example", run(commands, folder), String.join("", printed));
        } finally {
            delete(folder.toFile());
        }
    }

    /** Runs a command a line, and returns what they print. */
    private static String run(String commands, Path folder) throws IOException, InterruptedException {
        StringBuilder printed = new StringBuilder();
        for (String command : commands.split("\n")) {
            Process process = new ProcessBuilder(command.split(" ")).directory(folder.toFile())
                    .redirectError(ProcessBuilder.Redirect.INHERIT).start();
            printed.append(new String(process.getInputStream().readAllBytes()));
            Dues.due("exit code of " + command, process.waitFor(), 0);
        }
        return printed.toString();
    }

    private static void delete(File file) {
        File[] inside = file.listFiles();
        for (File one : inside == null ? new File[0] : inside) {
            delete(one);
        }
        file.delete();
    }
}
