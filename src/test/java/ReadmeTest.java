import java.io.ByteArrayOutputStream;
import java.io.IOException;
import java.io.PrintStream;
import java.nio.charset.StandardCharsets;
import java.nio.file.Files;
import java.nio.file.Path;
import java.util.regex.Matcher;
import java.util.regex.Pattern;

/** README.md shows the example as it stands, what it prints, and a row for each call of the document's face. */
public final class ReadmeTest {
    private static final Path README = Path.of("README.md");
    private static final Path EXAMPLE = Path.of("src/test/java/Example.java");
    private static final Path DOCUMENT = Path.of("../shared/DOC.md");
    private static final int METHODS = 50;

    public static void main(String[] args) throws IOException {
        String readme = read(README);
        shows(readme, "the example", "```java\n" + read(EXAMPLE) + "```\n");
        shows(readme, "what the example prints", "```\n" + printed() + "```\n");
        shows(readme, "how the tests are run", "\n    bash .ci/run\n");
        if (Files.isRegularFile(DOCUMENT)) {
            rows(readme, read(DOCUMENT));
        }
        Checks.end();
    }

    private static String read(Path place) throws IOException {
        return Files.readString(place, StandardCharsets.UTF_8);
    }

    private static void shows(String readme, String what, String text) {
        if (!readme.contains(text)) {
            Checks.fail("README.md does not show " + what + ":\n" + text);
        }
    }

    private static String printed() {
        PrintStream before = System.out;
        ByteArrayOutputStream bytes = new ByteArrayOutputStream();
        System.setOut(new PrintStream(bytes, true, StandardCharsets.UTF_8));
        try {
            Example.main(new String[0]);
        } finally {
            System.setOut(before);
        }
        return bytes.toString(StandardCharsets.UTF_8).replace(System.lineSeparator(), "\n");
    }

    private static void rows(String readme, String document) {
        Matcher line = Pattern.compile("    public (?:int|long|float|double|boolean|void) (\\w+)\\((.*)\\)(?: throws (.*))?;")
                .matcher(document);
        int methods = 0;
        while (line.find()) {
            String call = line.group(1) + "(" + line.group(2).replaceAll("\\w+ (\\w+)", "$1") + ")";
            String thrown = line.group(3) == null ? "nothing" : line.group(3);
            Pattern row = Pattern.compile("^\\| `" + Pattern.quote(call) + "` \\| .+ \\| " + thrown + " \\|$", Pattern.MULTILINE);
            if (!row.matcher(readme).find()) {
                Checks.fail("README.md has no row for " + call + " with " + thrown);
            }
            methods++;
        }
        if (methods != METHODS) {
            Checks.fail("the document's face has " + methods + " methods, " + METHODS + " were due");
        }
    }
}
