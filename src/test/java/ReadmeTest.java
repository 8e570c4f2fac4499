import java.io.IOException;
import java.nio.charset.StandardCharsets;
import java.nio.file.DirectoryStream;
import java.nio.file.Files;
import java.nio.file.Path;
import java.nio.file.StandardCopyOption;
import java.util.ArrayList;
import java.util.Arrays;
import java.util.HashMap;
import java.util.List;
import java.util.Map;
import java.util.Set;
import java.util.TreeSet;
import java.util.regex.MatchResult;
import java.util.regex.Matcher;
import java.util.regex.Pattern;

/** What README.md says of the class must be so: its example is run, its table is compared with the document. */
public final class ReadmeTest {
    private static final Path README = Path.of("README.md");
    private static final Path DOCUMENT = Path.of("../shared/DOC.md");
    private static final Path TESTS = Path.of("src/test/java");
    private static final Path CLASS = Path.of("src/main/java/OvenDays.java");
    private static final Path FOLDER = Path.of("build/readme");
    private static final Pattern EXAMPLE =
            Pattern.compile("```java\n(.*?)```.*?\n    (javac [^\n]*)\n    (java [^\n]*)\n", Pattern.DOTALL);
    private static final Pattern COMMENT = Pattern.compile("// (-?\\w+)");
    private static final Pattern ROW =
            Pattern.compile("\\| `([^`]+)` \\| ([^|]+) \\| ([^|]+) \\| ([^|]+) \\| (\\d+) \\|");
    private static final Pattern PROMISE =
            Pattern.compile("## Promise (\\d+): [^\n]*\n\n`([^`]+)`\n(.*?)(?=\n## |\\z)", Pattern.DOTALL);
    private static final Pattern THROWN = Pattern.compile("Throws `(\\w+)`");
    private static final Pattern RANGE = Pattern.compile("- `(\\w+)`: (\\d+ to \\d+)\n");

    private static final Check check = new Check();

    public static void main(String[] args) throws IOException, InterruptedException {
        String readme = Files.readString(README);
        example(readme);
        if (Files.exists(DOCUMENT)) {
            table(readme, Files.readString(DOCUMENT));
        } else {
            System.out.println("there is no " + DOCUMENT + ": the table is not compared with it");
        }
        tests(readme);
        check.end();
    }

    /** Does what the page says, in a folder of its own that holds a copy of the class. */
    private static void example(String readme) throws IOException, InterruptedException {
        Matcher found = EXAMPLE.matcher(readme);
        check.isTrue("there is an example", found.find());
        String program = found.group(1);
        Files.createDirectories(FOLDER.resolve(CLASS).getParent());
        Files.copy(CLASS, FOLDER.resolve(CLASS), StandardCopyOption.REPLACE_EXISTING);
        Files.writeString(FOLDER.resolve("Example.java"), program);
        printedBy(found.group(2));
        List<String> printed = printedBy(found.group(3));
        List<String> due = COMMENT.matcher(program).results().map(one -> one.group(1)).toList();
        check.isTrue("the example printed " + printed + ", its comments say " + due, printed.equals(due));
        check.isTrue("the example tells some answers", due.size() >= 10);
    }

    private static List<String> printedBy(String command) throws IOException, InterruptedException {
        Process process = new ProcessBuilder(command.split(" ")).directory(FOLDER.toFile())
                .redirectError(ProcessBuilder.Redirect.INHERIT).start();
        String printed = new String(process.getInputStream().readAllBytes(), StandardCharsets.UTF_8);
        check.is("exit code of " + command, process.waitFor(), 0);
        return printed.lines().toList();
    }

    private static void table(String readme, String document) {
        Map<String, MatchResult> rows = new HashMap<>();
        ROW.matcher(readme).results().forEach(row -> rows.put(row.group(5), row));
        check.is("rows of the table", ROW.matcher(readme).results().count(), 29);
        Matcher promise = PROMISE.matcher(document);
        int promises = 0;
        while (promise.find()) {
            promises++;
            MatchResult row = rows.get(promise.group(1));
            check.isTrue("promise " + promise.group(1) + " stands in the table", row != null);
            if (row != null) {
                compare(row, promise.group(2), promise.group(3));
            }
        }
        check.is("promises of the document", promises, 29);
    }

    private static void compare(MatchResult row, String signature, String body) {
        String call = row.group(1);
        check.isTrue(call + " is the call of " + signature, call.equals(callOf(signature)));
        List<String> thrown = THROWN.matcher(body).results().map(one -> one.group(1)).toList();
        List<String> told = exceptionsNamed(row.group(3));
        check.isTrue(call + " throws " + thrown + ", the table tells " + told, told.equals(thrown));
        check.isTrue(call + " saves a state or not", row.group(4).startsWith("yes") == body.contains("Undoable"));
        RANGE.matcher(body).results().forEach(range ->
                check.isTrue(call + " has its range of " + range.group(1), row.group(2).contains(range.group(2))));
    }

    private static String callOf(String signature) {
        String call = signature.replaceFirst(" throws .*", "");
        return call.startsWith("OvenDays(") ? "new " + call : call.replaceFirst("^\\w+ ", "").replace("int ", "");
    }

    private static List<String> exceptionsNamed(String column) {
        if (column.equals("nothing")) {
            return List.of();
        }
        List<String> named = new ArrayList<>();
        for (String part : column.split(", (?=[A-Z])")) {
            String word = part.replaceFirst(":.*", "");
            named.add(switch (word) {
                case "Index" -> "IndexOutOfBoundsException";
                case "Argument" -> "IllegalArgumentException";
                case "State" -> "IllegalStateException";
                default -> word;
            });
        }
        return named;
    }

    private static void tests(String readme) throws IOException {
        Set<String> there = new TreeSet<>();
        try (DirectoryStream<Path> files = Files.newDirectoryStream(TESTS, "*Test.java")) {
            for (Path file : files) {
                there.add(file.getFileName().toString().replace(".java", ""));
            }
        }
        Set<String> named = new TreeSet<>();
        Arrays.stream(readme.split("\\W+")).filter(word -> word.matches("\\w+Test")).forEach(named::add);
        check.isTrue("the page names " + named + ", there are " + there, named.equals(there));
    }
}
