import java.io.IOException;
import java.lang.reflect.Field;
import java.lang.reflect.Method;
import java.lang.reflect.Modifier;
import java.nio.charset.StandardCharsets;
import java.nio.file.Files;
import java.nio.file.Path;
import java.util.Comparator;
import java.util.List;
import java.util.regex.Matcher;
import java.util.regex.Pattern;
import java.util.stream.Stream;

/** README.md: its programs run and print what it says, and its tables are those of the document and the class. */
public final class ReadmeTest {
    private static final Check CHECK = new Check("ReadmeTest");
    private static final Path DOCUMENT = Path.of("../shared/DOC.md");
    private static final Path TESTS = Path.of("src/test/java");
    private static final String ERRORS = "NO_SUCH|BAD_VALUE|BAD_TEXT|TOO_MANY|NOT_POSSIBLE";

    public static void main(String[] args) throws Exception {
        String readme = Files.readString(Path.of("README.md"));
        programs(readme);
        constants(readme);
        calls(readme);
        tests(readme);
        CHECK.end();
    }

    /** Does what the page says in a copy of the project: puts its programs to their places, gives its commands. */
    private static void programs(String readme) throws Exception {
        Path root = Files.createTempDirectory("readme");
        try {
            Files.createSymbolicLink(root.resolve("shared"), Path.of("../shared").toRealPath());
            Path project = Files.createDirectory(root.resolve("project"));
            copy(Path.of("src"), project.resolve("src"));
            Files.writeString(project.resolve("Example.java"), blockWith(readme, "java", "class Example"));
            Files.writeString(project.resolve(TESTS).resolve("NewTest.java"),
                    blockWith(readme, "java", "class NewTest"));
            CHECK.due("what the example prints", told(project, blockWith(readme, "sh", "Example")),
                    blocks(readme, "text").get(0));
            CHECK.due("a test alone", told(project, blockWith(readme, "sh", "java -cp out LooksTest"))
                    .replaceAll("\\d+ answers", "all answers"), "LooksTest: all answers, 0 wrong\n");
            CHECK.due("the new test", told(project, "java -cp out NewTest"), "NewTest: 2 answers, 0 wrong\n");
            CHECK.due("a shared test alone", told(project, blockWith(readme, "sh", "BridgedPachisiRuns")),
                    "all answers are as due\n");
            CHECK.holds("all tests", blocks(readme, "sh").contains(".ci/run\n"));
        } finally {
            delete(root);
        }
    }

    /** The texts between "```language" and "```". */
    private static List<String> blocks(String readme, String language) {
        return Pattern.compile("(?s)```" + language + "\n(.*?)```").matcher(readme).results()
                .map(result -> result.group(1)).toList();
    }

    private static String blockWith(String readme, String language, String part) {
        List<String> found = blocks(readme, language).stream().filter(text -> text.contains(part)).toList();
        CHECK.due("blocks with " + part, found.size(), 1);
        return found.isEmpty() ? "" : found.get(0);
    }

    /** What the commands print, and the exit code, if it is not 0. */
    private static String told(Path folder, String commands) throws IOException, InterruptedException {
        Process process = new ProcessBuilder("sh", "-e", "-c", commands).directory(folder.toFile())
                .redirectError(ProcessBuilder.Redirect.INHERIT).start();
        process.getOutputStream().close();
        String printed = new String(process.getInputStream().readAllBytes(), StandardCharsets.UTF_8);
        int code = process.waitFor();
        return code == 0 ? printed : printed + "exit code " + code;
    }

    private static void copy(Path from, Path to) throws IOException {
        try (Stream<Path> within = Files.walk(from)) {
            for (Path path : within.toList()) {
                Files.copy(path, to.resolve(from.relativize(path)));
            }
        }
    }

    private static void delete(Path folder) throws IOException {
        try (Stream<Path> within = Files.walk(folder)) {
            for (Path path : within.sorted(Comparator.reverseOrder()).toList()) {
                Files.delete(path);
            }
        }
    }

    private static void constants(String readme) throws IllegalAccessException {
        for (Field field : BridgedPachisi.class.getFields()) {
            String name = field.getName();
            int number = field.getInt(null);
            String row = "(?s).*\\| `" + name + "` *\\| " + number + " *\\|.*";
            String setting = "(?s).*`" + name + "` \\(" + number + "\\): .*";
            CHECK.holds(name + " is told with its number", readme.matches(row) || readme.matches(setting));
        }
    }

    /** Each call has a row, and its last column names the errors as the document does. */
    private static void calls(String readme) throws IOException {
        String document = Files.readString(DOCUMENT);
        for (Method method : BridgedPachisi.class.getDeclaredMethods()) {
            if (!Modifier.isPublic(method.getModifiers())) {
                continue;
            }
            String name = method.getName();
            String row = found(readme, "(?m)^\\| `(" + name + "\\(.*)$");
            String told = row.substring(0, row.indexOf(')') + 1);
            String promise = found(document, "(?s)## Promise \\d+: " + name + "\n(.*?)\n## ");
            String asked = found(promise, "`int (" + name + "\\([^)]*\\))`").replaceAll("(int|long) ", "");
            CHECK.holds(name + ": " + told + " is " + asked + " in the document", told.equals(asked));
            List<String> errors = names(row.substring(row.lastIndexOf('|', row.length() - 2)));
            List<String> due = names(promise);
            CHECK.holds(name + ": the errors are " + due + ", not " + errors, errors.equals(due));
        }
    }

    private static String found(String text, String pattern) {
        Matcher matcher = Pattern.compile(pattern).matcher(text);
        CHECK.holds("there is " + pattern, matcher.find());
        return matcher.reset().find() ? matcher.group(1) : "() | |";
    }

    private static List<String> names(String text) {
        return Pattern.compile(ERRORS).matcher(text).results().map(result -> result.group()).toList();
    }

    private static void tests(String readme) throws IOException {
        try (Stream<Path> files = Files.list(TESTS)) {
            for (Path file : files.sorted().toList()) {
                String name = file.getFileName().toString().replace(".java", "");
                CHECK.holds(name + " is told of", readme.contains("`" + name + "`"));
            }
        }
    }
}
