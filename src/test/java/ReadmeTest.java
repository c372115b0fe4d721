import java.io.IOException;
import java.lang.reflect.InvocationTargetException;
import java.lang.reflect.Method;
import java.lang.reflect.Modifier;
import java.nio.charset.StandardCharsets;
import java.nio.file.Files;
import java.nio.file.Path;
import java.util.List;
import java.util.Set;
import java.util.TreeSet;
import java.util.regex.Matcher;
import java.util.regex.Pattern;
import java.util.stream.Stream;

/** What README.md tells holds: each call has the answer behind it, and its command runs all the tests. */
public final class ReadmeTest {
    private static final Path TESTS = Path.of("src/test/java");
    private static final Path COMMAND = Path.of(".ci/run");
    private static final String MAKE = "DockCall dock = new DockCall();";
    private static final Pattern CALL =
        Pattern.compile("dock\\.(\\w+)\\(([^()]*)\\);\\s+// (throws \\w+|true|false|-?\\d+)(: .+)?");

    private final Check check = new Check("README.md");
    private final Set<String> called = new TreeSet<>();
    private final Set<String> thrown = new TreeSet<>();
    private DockCall dock;

    public static void main(String[] args) throws IOException, IllegalAccessException {
        ReadmeTest test = new ReadmeTest();
        List<String> lines = Files.readAllLines(Path.of("README.md"), StandardCharsets.UTF_8);
        test.callsHold(lines);
        test.faceIsTold();
        test.commandRunsAll(lines);
        test.check.end();
    }

    private void callsHold(List<String> lines) throws IllegalAccessException {
        boolean java = false;
        for (int i = 0; i < lines.size(); i++) {
            String line = lines.get(i);
            if (line.startsWith("```")) {
                java = line.equals("```java");
            } else if (java) {
                lineHolds(i + 1, line);
            }
        }
    }

    private void lineHolds(int number, String line) throws IllegalAccessException {
        if (line.equals(MAKE)) {
            dock = new DockCall();
            return;
        }
        Matcher matcher = CALL.matcher(line);
        boolean reads = matcher.matches();
        check.is("line " + number + " is a call with its answer", true, reads && dock != null);
        if (reads && dock != null) {
            String[] told = matcher.group(2).isEmpty() ? new String[0] : matcher.group(2).split(", ");
            String got = answer(matcher.group(1), told);
            check.same("line " + number + ", " + matcher.group(1), matcher.group(3), got);
        }
    }

    private String answer(String name, String[] told) throws IllegalAccessException {
        Method method = faceMethod(name);
        if (method == null || method.getParameterCount() != told.length) {
            return "there is no such call";
        }
        called.add(name);
        Object[] arguments = new Object[told.length];
        for (int i = 0; i < told.length; i++) {
            arguments[i] = valueOf(told[i]);
        }
        try {
            return String.valueOf(method.invoke(dock, arguments));
        } catch (InvocationTargetException e) {
            String exception = e.getCause().getClass().getSimpleName();
            thrown.add(name + " " + exception);
            return "throws " + exception;
        }
    }

    private static Object valueOf(String told) {
        if (told.equals("true") || told.equals("false")) {
            return Boolean.valueOf(told);
        }
        return told.startsWith("0b") ? Integer.valueOf(told.substring(2), 2) : Integer.decode(told);
    }

    private static Method faceMethod(String name) {
        for (Method method : DockCall.class.getDeclaredMethods()) {
            if (Modifier.isPublic(method.getModifiers()) && method.getName().equals(name)) {
                return method;
            }
        }
        return null;
    }

    /** But for a full dock (24 men, 10 ships), which would make the run too long to read. */
    private void faceIsTold() {
        for (Method method : DockCall.class.getDeclaredMethods()) {
            if (!Modifier.isPublic(method.getModifiers())) {
                continue;
            }
            String name = method.getName();
            check.is("tells of " + name, true, called.contains(name));
            for (Class<?> exception : method.getExceptionTypes()) {
                String which = name + " " + exception.getSimpleName();
                boolean full = List.of("man UnsupportedOperationException", "ship UnsupportedOperationException")
                        .contains(which);
                check.is("tells of " + which, true, full || thrown.contains(which));
            }
        }
    }

    /** The command takes all files whose names end so: no test may have another name. */
    private void commandRunsAll(List<String> lines) throws IOException {
        check.is("names the command", true, lines.contains("    bash " + COMMAND));
        check.is("the command can be run", true, Files.isExecutable(COMMAND));
        String command = Files.readString(COMMAND, StandardCharsets.UTF_8);
        check.is("the command takes the project's tests", true, command.contains("for file in " + TESTS + "/*Test.java;"));
        check.is("the command takes the shared tests", true,
                command.contains("shared=../shared/tests\n") && command.contains("for file in \"$shared\"/*.java;"));
        Set<String> run = new TreeSet<>();
        for (Path file : testFiles()) {
            String name = file.getFileName().toString().replace(".java", "");
            boolean hasMain = Files.readString(file, StandardCharsets.UTF_8).contains("static void main(String[] args)");
            check.is(name + " is a test by its name", hasMain, name.endsWith("Test"));
            if (hasMain) {
                run.add(name);
            }
        }
        check.same("tests it names", run, namedTests(lines));
    }

    private static List<Path> testFiles() throws IOException {
        try (Stream<Path> files = Files.list(TESTS)) {
            return files.filter(file -> file.toString().endsWith(".java")).toList();
        }
    }

    private static Set<String> namedTests(List<String> lines) {
        Set<String> named = new TreeSet<>();
        Matcher matcher = Pattern.compile("`(\\w+Test)`").matcher(String.join("\n", lines));
        while (matcher.find()) {
            named.add(matcher.group(1));
        }
        return named;
    }
}
