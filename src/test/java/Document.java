import java.io.IOException;
import java.nio.charset.StandardCharsets;
import java.nio.file.Files;
import java.nio.file.Path;
import java.util.ArrayList;
import java.util.LinkedHashMap;
import java.util.List;
import java.util.Map;

/** ../shared/DOC.md by its headings, and which of its words a test has quoted. */
final class Document {
    private static final Path PLACE = Path.of("../shared/DOC.md");

    private final Map<String, String> texts = new LinkedHashMap<>();
    private final Map<String, boolean[]> quoted = new LinkedHashMap<>();

    private Document() {
    }

    /** Null where the document does not stand beside the project. */
    static Document read() throws IOException {
        if (!Files.isRegularFile(PLACE)) {
            return null;
        }
        Document document = new Document();
        String heading = "";
        StringBuilder text = new StringBuilder();
        for (String line : Files.readAllLines(PLACE, StandardCharsets.UTF_8)) {
            String begun = headingOf(line);
            if (begun != null) {
                document.add(heading, text.toString());
                heading = begun;
                text.setLength(0);
                line = line.startsWith("#") ? "" : line;
            }
            text.append(line).append('\n');
        }
        document.add(heading, text.toString());
        return document;
    }

    /** The sections of the description have no heading of their own: "1. INPUT. ..", "EXCEPTIONS. ..". */
    private static String headingOf(String line) {
        if (line.startsWith("#")) {
            return line.replaceAll("^#+ ", "").replaceAll("^(Promise \\d+):.*", "$1");
        }
        if (line.matches("[1-5]\\. [A-Z ]+\\. .*")) {
            return "Section " + line.charAt(0);
        }
        if (line.startsWith("EXCEPTIONS. ")) {
            return "EXCEPTIONS";
        }
        return line.equals("The constants:") ? "The constants" : null;
    }

    private void add(String heading, String text) {
        String plain = plain(text);
        texts.put(heading, plain);
        quoted.put(heading, new boolean[plain.length()]);
    }

    static String plain(String text) {
        return text.replaceAll("\\s+", " ").trim();
    }

    /** Tells whether a sentence stands under a heading, and counts it as quoted. */
    boolean quote(String heading, String sentence) {
        String text = texts.get(heading);
        String words = plain(sentence);
        int from = text == null ? -1 : text.indexOf(words);
        for (int at = from; from >= 0 && at < from + words.length(); at++) {
            quoted.get(heading)[at] = true;
        }
        return from >= 0;
    }

    /** What no test has quoted under the headings from the description on. */
    List<String> left() {
        List<String> left = new ArrayList<>();
        for (Map.Entry<String, String> each : texts.entrySet()) {
            boolean[] done = quoted.get(each.getKey());
            StringBuilder gap = new StringBuilder();
            for (int at = 0; at <= done.length; at++) {
                if (at < done.length && !done[at]) {
                    gap.append(each.getValue().charAt(at));
                } else if (gap.length() > 0) {
                    if (gap.toString().matches(".*[A-Za-z0-9].*")) {
                        left.add(each.getKey() + ": " + gap);
                    }
                    gap.setLength(0);
                }
            }
        }
        return left;
    }
}
