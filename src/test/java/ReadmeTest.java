import java.io.IOException;
import java.nio.file.Files;
import java.nio.file.Path;
import java.util.ArrayList;
import java.util.List;
import java.util.regex.Matcher;
import java.util.regex.Pattern;

/** The example of README.md: each of its calls answers what stands behind it. */
public final class ReadmeTest {
    private static final Pattern TEXT = Pattern.compile("String text = \"([^\"]+)\";");
    private static final Pattern CALL = Pattern.compile("carver\\.(\\w+)\\(([-0-9, ]*)\\); +// (-?\\d+|[A-Z]+):.*");

    public static void main(String[] args) throws IOException {
        Path source = Path.of(System.getProperty("windcarver.source")).toAbsolutePath().normalize();
        String readme = Files.readString(source.resolve("../../../../README.md").normalize());
        List<String> lines = new ArrayList<>();
        for (String line : example(readme)) {
            Matcher text = TEXT.matcher(line);
            Matcher call = CALL.matcher(line);
            if (text.find()) {
                lines.add("text " + text.group(1));
            } else if (call.matches()) {
                lines.add((call.group(1) + " " + call.group(2).replace(",", "")).trim() + " = " + call.group(3));
            }
        }
        Check.due("README.md: calls that tell their answer", lines.size() > 10, true);
        Check.run("README.md", lines.toArray(new String[0]));
        Check.end();
    }

    private static String[] example(String readme) {
        int begin = readme.indexOf("```java\n");
        int end = readme.indexOf("```\n", begin + 1);
        Check.due("README.md has an example", begin >= 0 && end > begin, true);
        return begin >= 0 && end > begin ? readme.substring(begin, end).split("\n") : new String[0];
    }
}
