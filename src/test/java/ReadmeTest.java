import java.io.IOException;
import java.nio.file.Files;
import java.nio.file.Path;
import java.util.Arrays;
import java.util.regex.Matcher;
import java.util.regex.Pattern;

/** What README.md says of the class: its example answers so, and each call is told with its numbers. */
final class ReadmeTest {
    private static final Pattern LINE = Pattern.compile("(?m)^x\\.(\\w+)\\(([-\\d, ]*)\\); +// .*?(-?\\d+)$");
    private static final Pattern HEAD = Pattern.compile("public int (\\w+)\\(([^)]*)\\);");

    private ReadmeTest() {
    }

    static void run() throws IOException {
        Check.part("README.md");
        String text = Files.readString(Path.of("README.md"));
        example(text);
        calls(text);
    }

    private static void example(String text) {
        Run x = new Run();
        Matcher line = LINE.matcher(text);
        int lines = 0;
        while (line.find()) {
            x.due(Integer.parseInt(line.group(3)), line.group(1), numbers(line.group(2)));
            lines++;
        }
        Check.due("lines of the example", lines, text.split("\nx\\.").length - 1);
        Check.holds("there is an example", lines > 0);
    }

    private static int[] numbers(String list) {
        return Arrays.stream(list.split(", *")).filter(n -> !n.isEmpty()).mapToInt(Integer::parseInt).toArray();
    }

    private static void calls(String text) throws IOException {
        Matcher head = HEAD.matcher(Files.readString(Path.of("..", "shared", "DOC.md")));
        int heads = 0;
        while (head.find()) {
            String call = "`" + head.group(1) + "(" + head.group(2).replace("int ", "") + ")`";
            Check.holds("it tells " + call, text.contains(call));
            heads++;
        }
        Check.due("calls of the document's face", heads, 27);
    }
}
