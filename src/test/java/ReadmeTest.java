import java.io.IOException;
import java.nio.charset.StandardCharsets;
import java.nio.file.DirectoryStream;
import java.nio.file.Files;
import java.nio.file.Path;
import java.util.List;
import java.util.regex.Matcher;
import java.util.regex.Pattern;

/** What README.md says of the class and of its tests; to be run from the directory of the project. */
public final class ReadmeTest {
    private static final Path PAGE = Path.of("README.md");
    private static final Path TESTS = Path.of("src", "test", "java");
    private static final Pattern TYPED = Pattern.compile("for \\(char c : \"(.*)\"\\.toCharArray\\(\\)\\) x\\.type\\(c\\);");
    private static final Pattern CALL = Pattern.compile("x\\.(\\w+)\\(([-0-9, ]*)\\); +// (-?[0-9]+): .+");
    private static final List<String> CALLS = List.of("type", "clear", "reads", "statement", "sign", "runs", "ran", "span", "hands",
        "live", "sure", "alike", "lifts", "method", "formal", "settles", "back", "told", "digest");

    private ReadmeTest() {
    }

    /** Carries out the example line by line; each call must have the answer that stands behind it. */
    private static void example(List<String> page) {
        Edges.says("README.md: the example");
        int begin = page.indexOf("```java");
        int end = page.lastIndexOf("```");
        if (begin < 0 || end < begin) {
            Edges.complain("there is no example");
            return;
        }
        Probe x = new Probe();
        for (String line : page.subList(begin + 1, end)) {
            Matcher typed = TYPED.matcher(line);
            Matcher call = CALL.matcher(line);
            if (typed.matches()) {
                x.typed(typed.group(1));
            } else if (call.matches()) {
                x.due((call.group(1) + " " + call.group(2).replace(",", " ")).trim(), Long.parseLong(call.group(3)));
            } else if (!line.isEmpty() && !line.equals("SpanLifts x = new SpanLifts();")) {
                Edges.complain("no call with its answer: " + line);
            }
        }
        String all = String.join("\n", page.subList(begin, end));
        for (String name : CALLS) {
            Edges.due("the example uses " + name, all.contains("x." + name + "(") ? 1 : 0, 1);
        }
    }

    private static void names(String page) throws IOException {
        Edges.says("README.md: how to use the class");
        for (String name : CALLS) {
            Edges.due("the page names " + name, page.contains("`" + name + "`") ? 1 : 0, 1);
        }
        for (String name : List.of("BAD", "NO", "FULL", "NONE")) {
            Edges.due("the page names " + name, page.contains("`" + name + "`") ? 1 : 0, 1);
        }
        Edges.says("README.md: how to run its tests");
        Edges.due("the page names .ci/run", page.contains("\n    .ci/run\n") ? 1 : 0, 1);
        Edges.due("the page names ../shared/tests", page.contains("`../shared/tests`") ? 1 : 0, 1);
        try (DirectoryStream<Path> files = Files.newDirectoryStream(TESTS, "*.java")) {
            for (Path file : files) {
                String name = file.getFileName().toString().replace(".java", "");
                Edges.due("the page names " + name, page.contains("`" + name + "`") ? 1 : 0, 1);
            }
        }
    }

    public static void main(String[] args) throws IOException {
        if (!Files.isReadable(PAGE) || !Files.isDirectory(TESTS)) {
            System.out.println("README.md and src/test/java are not here");
            System.exit(1);
        }
        String page = Files.readString(PAGE, StandardCharsets.UTF_8);
        example(page.lines().toList());
        names(page);
        Edges.finish();
    }
}
