import java.io.IOException;
import java.lang.reflect.Method;
import java.lang.reflect.Modifier;
import java.net.URL;
import java.net.URLClassLoader;
import java.nio.file.Files;
import java.nio.file.Path;
import java.util.ArrayList;
import java.util.List;
import java.util.regex.Matcher;
import java.util.regex.Pattern;
import java.util.stream.Stream;
import javax.tools.ToolProvider;

/** README.md is true: its examples compile and answer as they say, and it tells all calls and all tests. */
public final class ReadmeTests {
    private static final Path PAGE = Path.of("README.md");
    private static final Path DOCUMENT = Path.of("../shared/DOC.md");
    private static final Path TESTS = Path.of("src/test/java");
    private static final String BEGINNING = "SungLines x = new SungLines();";
    private static final Pattern ANSWERED = Pattern.compile("(x\\..*\\)); +// (-?\\d+)(?::.*)?");
    private static final Check C = new Check();

    public static void main(String[] args) throws Exception {
        String page = Files.readString(PAGE);
        int example = 0;
        for (String code : examples(page)) {
            example++;
            check(example, code);
        }
        C.that("there are examples", example > 0);
        tellsAllCalls(page);
        tellsAllTests(page);
        C.end("ReadmeTests");
    }

    private static List<String> examples(String page) {
        List<String> all = new ArrayList<>();
        Matcher m = Pattern.compile("(?s)```java\n(.*?)```").matcher(page);
        while (m.find()) {
            if (m.group(1).startsWith(BEGINNING)) {
                all.add(m.group(1));
            }
        }
        return all;
    }

    private static void check(int example, String code) throws Exception {
        List<String> calls = new ArrayList<>();
        List<Long> dues = new ArrayList<>();
        StringBuilder body = new StringBuilder();
        for (String line : code.split("\n")) {
            Matcher m = ANSWERED.matcher(line);
            if (m.matches()) {
                calls.add(m.group(1));
                dues.add(Long.parseLong(m.group(2)));
                body.append("answers.add((long) ").append(m.group(1)).append(");\n");
            } else {
                C.that("example " + example + ": an answer is told by: " + line, !line.contains("//") && !line.startsWith("x."));
                body.append(line).append('\n');
            }
        }
        List<Long> answers = run("Example" + example, body.toString());
        C.due("example " + example + ": how many answers", answers.size(), dues.size());
        for (int k = 0; k < answers.size() && k < dues.size(); k++) {
            C.due("example " + example + ": " + calls.get(k), answers.get(k), dues.get(k));
        }
    }

    /** Empty if it does not compile. */
    private static List<Long> run(String name, String body) throws Exception {
        Path folder = Files.createTempDirectory("readme");
        try {
            Path file = folder.resolve(name + ".java");
            Files.writeString(file, "public final class " + name + " { public static void run(java.util.List<Long> answers) {\n"
                    + body + "} }\n");
            List<Long> answers = new ArrayList<>();
            int wrong = ToolProvider.getSystemJavaCompiler().run(null, null, null, "-nowarn", "-proc:none",
                    "-cp", System.getProperty("java.class.path"), "-d", folder.toString(), file.toString());
            if (wrong == 0) {
                try (URLClassLoader loader = new URLClassLoader(new URL[] {folder.toUri().toURL()}, ReadmeTests.class.getClassLoader())) {
                    loader.loadClass(name).getMethod("run", List.class).invoke(null, answers);
                }
            }
            return answers;
        } finally {
            remove(folder);
        }
    }

    private static void remove(Path folder) throws IOException {
        try (Stream<Path> files = Files.list(folder)) {
            for (Path file : files.toList()) {
                Files.delete(file);
            }
        }
        Files.delete(folder);
    }

    /** The table has a row for each call, with the document's own names of what it takes, and S where the document has it. */
    private static void tellsAllCalls(String page) throws IOException {
        for (Method m : SungLines.class.getDeclaredMethods()) {
            if (Modifier.isPublic(m.getModifiers())) {
                C.that("a row for " + m.getName(), page.contains("\n| `" + m.getName() + "("));
            }
        }
        for (String constant : new String[] {"NONE", "BAD", "NO", "FULL", "MUCH"}) {
            C.that(constant, page.contains("`" + constant + "`"));
        }
        if (Files.exists(DOCUMENT)) {
            Matcher promise = Pattern.compile("\n`(?:int|long) (\\w+)\\((.*?)\\)`: (.*)").matcher(Files.readString(DOCUMENT));
            int calls = 0;
            while (promise.find()) {
                calls++;
                String call = promise.group(1) + "(" + promise.group(2).replaceAll("(?:int|long) ", "") + ")";
                boolean leavesState = Pattern.compile("\\. S(?:\\.| \\()").matcher(promise.group(3)).find();
                C.that("a row for " + call, page.contains("\n| `" + call + "` |" + (leavesState ? " S |" : " |")));
            }
            C.due("calls in the document", calls, 24);
        }
    }

    private static void tellsAllTests(String page) throws IOException {
        try (Stream<Path> files = Files.list(TESTS)) {
            for (Path file : files.toList()) {
                String name = file.getFileName().toString();
                if (name.endsWith("Tests.java")) {
                    C.that("a row for " + name, page.contains("\n| `" + name.replace(".java", "") + "` |"));
                }
            }
        }
        C.that("how to run them all", page.contains("`.ci/run`"));
    }
}
