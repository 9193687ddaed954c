import java.io.IOException;
import java.nio.file.Files;
import java.nio.file.Path;
import java.util.Arrays;
import java.util.regex.Matcher;
import java.util.regex.Pattern;

/** The example of README.md: each call answers what the comment behind it begins with. Runs in the project's root. */
public final class ReadmeTest extends Edges {
    private static final Pattern EXAMPLE = Pattern.compile("(?s)```java\n(.*?)```");
    private static final Pattern TYPED = Pattern.compile("for \\(char c : \"([^\"]*)\"\\.toCharArray\\(\\)\\) x\\.type\\(c\\);");
    private static final Pattern CALL = Pattern.compile("x\\.(\\w+)\\(([-0-9, ]*)\\); +// (-?\\d+)\\b.*");

    public static void main(String[] args) throws IOException {
        Matcher example = EXAMPLE.matcher(Files.readString(Path.of("README.md")));
        due("README.md has an example", example.find() ? 1 : 0, 1);
        OneBook x = new OneBook();
        for (String line : example.group(1).split("\n")) {
            hold(x, line);
        }
        end();
    }

    private static void hold(OneBook x, String line) {
        if (line.isBlank() || line.startsWith("//") || line.equals("OneBook x = new OneBook();")) {
            return;
        }
        Matcher typed = TYPED.matcher(line);
        if (typed.matches()) {
            typeAll(x, typed.group(1));
            return;
        }
        Matcher call = CALL.matcher(line);
        boolean told = call.matches();
        due("a call with its answer: " + line, told ? 1 : 0, 1);
        if (told) {
            due(line, Face.call(x, call.group(1), numbers(call.group(2))), Long.parseLong(call.group(3)));
        }
    }

    private static int[] numbers(String row) {
        return row.isBlank() ? new int[0] : Arrays.stream(row.split(", *")).mapToInt(Integer::parseInt).toArray();
    }
}
