import java.io.IOException;
import java.nio.file.Files;
import java.nio.file.Path;
import java.util.Arrays;
import java.util.regex.Matcher;
import java.util.regex.Pattern;

/** The README's example answers what it says there, and every call is told of. */
public final class ReadmeTest {
    private static final Due due = new Due();

    public static void main(String[] args) throws IOException {
        String readme = Files.readString(Path.of("README.md"));
        example(readme);
        for (Call call : Call.values()) {
            due.holds("the README tells of " + call, readme.contains("| `" + call + "("));
        }
        due.holds("the README tells how to run the tests", readme.contains("\n    .ci/run\n"));
        due.end();
    }

    private static void example(String readme) {
        Matcher made = Pattern.compile("SignMatrices x = new SignMatrices\\((-?\\d+)\\);").matcher(readme);
        due.holds("the README has an example", made.find());
        SignMatrices x = new SignMatrices(Integer.parseInt(made.group(1)));
        Matcher line = Pattern.compile("x\\.(\\w+)\\(([-\\d, ]*)\\); +// (-?\\d+)").matcher(readme);
        int lines = 0;
        while (line.find()) {
            Call call = Call.valueOf(line.group(1));
            int[] arguments = Arrays.stream(line.group(2).split(", "))
                    .filter(part -> !part.isEmpty()).mapToInt(Integer::parseInt).toArray();
            due.is("README: " + line.group(), call.ask(x, arguments), Integer.parseInt(line.group(3)));
            lines++;
        }
        due.holds("the example has calls", lines > 0);
    }
}
