import java.io.IOException;
import java.nio.charset.StandardCharsets;
import java.nio.file.Files;
import java.nio.file.Path;
import java.util.List;
import java.util.regex.Matcher;
import java.util.regex.Pattern;

/** Those rules of LANGUAGE.md that the text of the class shows by itself. */
public final class LanguageTest {
    private static final List<String> IMPORTS =
        List.of("import java.util.Arrays;", "import java.util.NoSuchElementException;");
    private static final String[] NOT_THERE = {"\\bpackage\\b", "->", "::", "\\bfinally\\b", "\\bsynchronized\\b",
        "\\bassert\\b", "\\bprotected\\b", "Exact\\(", "\\bSystem\\.(?!arraycopy\\()", "\\btry\\b", "\\bcatch\\b",
        "\\bgetMessage\\b", "\\bThread\\b", "\\bRandom\\b", "\\bvolatile\\b", "\\bvar\\b", "\\bHashMap\\b",
        "static \\{", "\\bjava\\.(?!util\\.(Arrays|NoSuchElementException);)"};

    public static void main(String[] args) throws IOException {
        Check check = new Check("language");
        String source = Files.readString(Path.of("src/main/java/DockCall.java"), StandardCharsets.UTF_8);
        List<String> lines = source.lines().toList();
        check.same("imports", IMPORTS, lines.stream().filter(l -> l.startsWith("import")).toList());
        for (String pattern : NOT_THERE) {
            check.is("has " + pattern, false, Pattern.compile(pattern).matcher(source).find());
        }
        check.is("signs are 1 to 127", true, source.chars().allMatch(c -> c > 0 && c < 128));
        check.is("at most twelve classes", true, found("\\b(class|enum|record|interface) [A-Z]", source) <= 12);
        int statics = found("\\bstatic (final )?(?!final|class)[A-Za-z\\[\\]]+ [A-Z_]+ =", source);
        check.is("static fields are final", statics, found("\\bstatic final [A-Za-z\\[\\]]+ [A-Z_]+ =", source));
        methodsAreShort(check, lines);
        check.end();
    }

    private static int found(String pattern, String source) {
        Matcher matcher = Pattern.compile(pattern).matcher(source);
        int times = 0;
        while (matcher.find()) {
            times++;
        }
        return times;
    }

    /** A method's end is the first brace that stands as far in as its head. */
    private static void methodsAreShort(Check check, List<String> lines) {
        Pattern head = Pattern.compile("( {4}| {8})(public|private|[A-Z]\\w+\\().*\\).*\\{");
        for (int i = 0; i < lines.size(); i++) {
            Matcher matcher = head.matcher(lines.get(i));
            if (!matcher.matches()) {
                continue;
            }
            int end = i + 1;
            while (end < lines.size() && !lines.get(end).equals(matcher.group(1) + "}")) {
                end++;
            }
            check.is("line " + (i + 1) + " begins a method of at most 60 lines", true, end - i <= 60);
            check.is("line " + (i + 1) + " takes at most 7", true, found(",", lines.get(i)) <= 6);
        }
    }
}
