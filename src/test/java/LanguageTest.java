import java.io.IOException;
import java.lang.reflect.Method;
import java.lang.reflect.Modifier;
import java.nio.charset.StandardCharsets;
import java.nio.file.Files;
import java.nio.file.Path;
import java.util.HashSet;
import java.util.List;
import java.util.Set;
import java.util.regex.Pattern;

/** The rules of LANGUAGE.md that a look at the source's words, or at the compiled classes, can find broken. */
public final class LanguageTest {
    private static final Path SOURCE = Path.of("src/main/java/MailSessions.java");
    /** "Some sixty lines", "some twelve classes". */
    private static final int MOST_LINES = 66;
    private static final int MOST_CLASSES = 14;
    private static final String[] FORBIDDEN = {"\\bpackage\\b", "\\bfinally\\b", "\\bsynchronized\\b", "\\bassert\\b",
        "^(?!.*\\b(case|default)\\b).*->", "::", "\\bhashCode\\b", "\\bprotected\\b", "\\bgetMessage\\b",
        "\\bcatch \\((ArrayIndexOutOfBounds|NullPointer|ClassCast|NegativeArraySize|ArrayStore)?Exception\\b",
        "\\bcatch \\((Throwable|Error)\\b", "\\bMath\\.\\w*Exact\\b", "\\bSystem\\.(?!arraycopy)", "\\bstatic \\{",
        "\\bThread\\b", "\\bRandom\\b", "\" \\+", "\\+ \"", "\\b(Integer|Long)\\.[A-Z]"};

    public static void main(String[] args) throws IOException {
        List<String> lines = Files.readAllLines(SOURCE, StandardCharsets.US_ASCII);
        words(lines);
        lengths(lines);
        names();
        Checks.end();
    }

    private static void words(List<String> lines) {
        for (int at = 0; at < lines.size(); at++) {
            String code = withoutComment(lines.get(at));
            for (String forbidden : FORBIDDEN) {
                if (Pattern.compile(forbidden).matcher(code).find()) {
                    Checks.fail("line " + (at + 1) + " has " + forbidden + ": " + code.trim());
                }
            }
            if (code.startsWith("import ") && !code.equals("import java.util.NoSuchElementException;")) {
                Checks.fail("line " + (at + 1) + " imports more than the document: " + code);
            }
        }
    }

    private static String withoutComment(String line) {
        return line.replaceAll("//.*|^\\s*/?\\*.*", "");
    }

    /** A method stands between a line that ends with an open brace and its closing brace, 4 or 8 blanks in. */
    private static void lengths(List<String> lines) {
        for (String margin : new String[] {"    ", "        "}) {
            int start = -1;
            for (int at = 0; at < lines.size(); at++) {
                String line = withoutComment(lines.get(at));
                boolean type = Pattern.compile("\\b(class|enum|interface)\\b").matcher(line).find();
                if (line.matches(margin + "\\S.*") && line.contains("(") && !type && !line.endsWith(";")) {
                    start = at;
                } else if (line.equals(margin + "}") && start >= 0) {
                    if (at - start + 1 > MOST_LINES) {
                        Checks.fail("line " + (start + 1) + " begins a method of " + (at - start + 1) + " lines");
                    }
                    start = -1;
                }
            }
        }
    }

    private static void names() {
        Set<String> face = new HashSet<>();
        for (Method method : MailSessions.class.getDeclaredMethods()) {
            if (Modifier.isPublic(method.getModifiers())) {
                face.add(method.getName());
            } else if (!Modifier.isPrivate(method.getModifiers())) {
                Checks.fail("neither public nor private: " + method);
            }
        }
        hidden(MailSessions.class, face);
        int classes = 1;
        for (Class<?> inside : MailSessions.class.getDeclaredClasses()) {
            hidden(inside, face);
            classes++;
            if (Modifier.isPublic(inside.getModifiers()) || Modifier.isProtected(inside.getModifiers())) {
                Checks.fail("neither private nor package-visible: " + inside);
            }
        }
        if (classes > MOST_CLASSES) {
            Checks.fail(classes + " classes");
        }
    }

    private static void hidden(Class<?> type, Set<String> face) {
        for (Method method : type.getDeclaredMethods()) {
            if (method.getParameterCount() > 7) {
                Checks.fail("more than seven parameters: " + method);
            }
            if (Modifier.isPrivate(method.getModifiers()) && face.contains(method.getName())) {
                Checks.fail("bears the name of a public one: " + method);
            }
        }
    }
}
