import java.io.IOException;
import java.io.StringWriter;
import java.lang.reflect.Method;
import java.lang.reflect.Modifier;
import java.net.URL;
import java.net.URLClassLoader;
import java.nio.file.FileSystems;
import java.nio.file.Files;
import java.nio.file.Path;
import java.nio.file.PathMatcher;
import java.util.ArrayList;
import java.util.List;
import java.util.regex.Matcher;
import java.util.regex.Pattern;
import java.util.stream.Stream;
import javax.tools.JavaCompiler;
import javax.tools.ToolProvider;

/** Compiles and runs the example of README.md, and looks at each answer that it shows. */
public final class ReadmeTest {
    /** A call, and a comment that begins with its answer. */
    private static final Pattern SHOWN = Pattern.compile("(x\\.\\w+\\(.*\\)); +// (-?\\d+|[A-Z]+)\\b.*");

    private static final Path TESTS = Path.of("src/test/java");

    /** What the page shows: the calls, their answers, and all lines of the example. */
    private static final List<String> calls = new ArrayList<>();
    private static final List<Long> due = new ArrayList<>();
    private static final StringBuilder body = new StringBuilder();

    public static void main(String[] args) throws Exception {
        String page = Files.readString(Path.of("README.md"));
        collect(page);
        compareAnswers();
        everyMethodIsShown();
        everyTestIsNamed(page);
        everyNamedFileIsThere(page);
        Check.isTrue("README.md says how to run the tests", page.contains("\n    .ci/run\n"));
        Check.isTrue(".ci/run can be run", Files.isExecutable(Path.of(".ci/run")));
        Check.end();
    }

    /** Takes the lines of all Java blocks; a call of x at the margin must show its answer. */
    private static void collect(String page) throws Exception {
        boolean inside = false;
        for (String line : page.lines().toList()) {
            if (line.startsWith("```")) {
                inside = line.equals("```java");
            } else if (inside) {
                take(line);
            }
        }
        Check.isTrue("README.md has an example", !calls.isEmpty());
    }

    private static void take(String line) throws Exception {
        Matcher shown = SHOWN.matcher(line);
        if (shown.matches()) {
            calls.add(shown.group(1));
            due.add(valueOf(shown.group(2)));
            body.append("answers.add((long) ").append(shown.group(1)).append(");\n");
        } else {
            Check.isTrue("README.md shows the answer of " + line, !line.startsWith("x."));
            body.append(line).append('\n');
        }
    }

    private static long valueOf(String answer) throws Exception {
        boolean number = answer.matches("-?\\d+");
        return number ? Long.parseLong(answer) : CaveLegs.class.getField(answer).getInt(null);
    }

    private static void compareAnswers() throws Exception {
        List<Long> answers = new ArrayList<>();
        Path folder = Files.createTempDirectory("readme");
        try {
            run(folder, answers);
        } finally {
            remove(folder);
        }
        Check.due("README.md: calls that were answered", answers.size(), calls.size());
        for (int i = 0; i < answers.size() && i < calls.size(); i++) {
            Check.due("README.md: " + calls.get(i), answers.get(i), due.get(i));
        }
    }

    private static void run(Path folder, List<Long> answers) throws Exception {
        Path source = folder.resolve("Example.java");
        Files.writeString(source, "public final class Example {\n"
            + "public static void run(java.util.List<Long> answers) {\n" + body + "}\n}\n");
        JavaCompiler compiler = ToolProvider.getSystemJavaCompiler();
        StringWriter complaints = new StringWriter();
        List<String> options = List.of("-cp", System.getProperty("java.class.path"), "-d", folder.toString());
        boolean compiled;
        try (var files = compiler.getStandardFileManager(null, null, null)) {
            compiled = compiler.getTask(complaints, files, null, options, null, files.getJavaFileObjects(source)).call();
        }
        Check.isTrue("README.md: the example compiles " + complaints, compiled);
        if (compiled) {
            try (URLClassLoader loader = new URLClassLoader(new URL[] {folder.toUri().toURL()})) {
                loader.loadClass("Example").getMethod("run", List.class).invoke(null, answers);
            }
        }
    }

    private static void remove(Path folder) throws IOException {
        try (Stream<Path> files = Files.list(folder)) {
            for (Path file : files.toList()) {
                Files.delete(file);
            }
        }
        Files.delete(folder);
    }

    private static void everyMethodIsShown() {
        for (Method m : CaveLegs.class.getDeclaredMethods()) {
            if (Modifier.isPublic(m.getModifiers())) {
                String call = "x." + m.getName() + "(";
                Check.isTrue("README.md shows " + call, calls.stream().anyMatch(c -> c.startsWith(call)));
            }
        }
    }

    private static void everyTestIsNamed(String page) throws IOException {
        List<PathMatcher> named = new ArrayList<>();
        for (String name : namedTests(page)) {
            named.add(FileSystems.getDefault().getPathMatcher("glob:" + name));
        }
        for (Path file : testFiles()) {
            boolean found = named.stream().anyMatch(n -> n.matches(file));
            Check.isTrue("README.md names " + file, found || !file.toString().endsWith("Test.java"));
        }
    }

    private static void everyNamedFileIsThere(String page) throws IOException {
        List<Path> files = testFiles();
        for (String name : namedTests(page)) {
            PathMatcher matcher = FileSystems.getDefault().getPathMatcher("glob:" + name);
            Check.isTrue("README.md names " + name + ", which is there", files.stream().anyMatch(matcher::matches));
        }
    }

    /** What the list of tests begins its points with. */
    private static List<String> namedTests(String page) {
        Matcher point = Pattern.compile("(?m)^- `(src/test/java/[^`]+)`").matcher(page);
        List<String> names = new ArrayList<>();
        while (point.find()) {
            names.add(point.group(1));
        }
        return names;
    }

    private static List<Path> testFiles() throws IOException {
        try (Stream<Path> files = Files.list(TESTS)) {
            return files.toList();
        }
    }
}
