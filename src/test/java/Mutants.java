import java.io.ByteArrayOutputStream;
import java.io.IOException;
import java.io.OutputStream;
import java.io.PrintStream;
import java.lang.reflect.Method;
import java.net.URI;
import java.nio.file.Files;
import java.nio.file.Path;
import java.util.ArrayList;
import java.util.Collections;
import java.util.HashMap;
import java.util.List;
import java.util.Map;
import java.util.Set;
import java.util.TreeMap;
import java.util.TreeSet;
import java.util.concurrent.ExecutorService;
import java.util.concurrent.Executors;
import java.util.concurrent.Future;
import java.util.regex.Matcher;
import java.util.regex.Pattern;
import javax.tools.DiagnosticCollector;
import javax.tools.FileObject;
import javax.tools.ForwardingJavaFileManager;
import javax.tools.JavaCompiler;
import javax.tools.JavaFileManager;
import javax.tools.JavaFileObject;
import javax.tools.SimpleJavaFileObject;
import javax.tools.ToolProvider;

/**
 * Do the tests of boundary cases bite? This breaks the class in many small ways, one at a time, and tells which
 * breaks none of them sees, and which of them sees no break. It is run by hand, as it takes a minute or two:
 * java -cp out Mutants src/main/java/SungLines.java out
 */
public final class Mutants {
    private static final long MILLIS_FOR_ONE = 20_000;
    /** What is put in the place of what. */
    private static final String[][] SWAPS = {
        {" < ", " <= "}, {" <= ", " < "}, {" > ", " >= "}, {" >= ", " > "}, {" < ", " > "}, {" > ", " < "}, {" == ", " != "},
        {" != ", " == "}, {" && ", " || "}, {" \\|\\| ", " && "}, {" \\+ ", " - "}, {" - ", " + "}, {" \\* ", " + "}, {" % ", " / "},
        {" / ", " * "}, {"\\+\\+(?=;)", "--"}, {"\\+= ", "-= "}, {"-= ", "+= "}, {"!(?=\\w)", ""}, {"\\bbeginSet\\b", "endSet"},
        {"\\bendSet\\b", "beginSet"}, {"\\bfirst\\b", "second"}};
    private static final String[] ANSWERS = {"NONE", "BAD", "NO", "FULL", "MUCH"};
    private static final String STATEMENT = "(?m)^ {8,}(?!return|int |long |boolean |break|case|default|for|if|while|\\})"
            + "([\\w.\\[\\]]+(?:\\[.*\\])?(?:\\+\\+|--| [-+*/]?= .*|\\(.*\\)));$";

    private final String source;
    private final Path tests;
    private final List<Break> breaks = new ArrayList<>();

    /** The bytes from..to of the source become another text. */
    private record Break(int from, int to, String by) {
    }

    /** seen is null if the broken class does not compile. */
    private record Outcome(Break one, Set<String> seen) {
    }

    private Mutants(String source, Path tests) {
        this.source = source;
        this.tests = tests;
    }

    public static void main(String[] args) throws Exception {
        PrintStream out = System.out;
        System.setOut(new PrintStream(OutputStream.nullOutputStream()));
        Mutants all = new Mutants(Files.readString(Path.of(args[0])), Path.of(args[1]));
        all.gather();
        all.tell(out);
        System.exit(0);
    }

    // ---- which breaks there are

    private void gather() {
        String code = withoutTexts();
        for (String[] swap : SWAPS) {
            each(code, swap[0], m -> swap[1]);
        }
        for (String answer : ANSWERS) {
            for (String other : ANSWERS) {
                if (!other.equals(answer)) {
                    each(code, "(?<=return |refusal\\(|\\? |: )\\b" + answer + "\\b", m -> other);
                }
            }
        }
        each(code, "(?<![\\w.])\\d+(?=L?\\b)", m -> plus(m.group(), 1));
        each(code, "(?<![\\w.])\\d+(?=L?\\b)", m -> plus(m.group(), -1));
        each(source, "'.'", m -> "(" + m.group() + " + 1)");
        each(source, "'.'", m -> "(" + m.group() + " - 1)");
        each(code, "(?<=\\bif \\().*(?=\\) \\{)", m -> "false && (" + source.substring(m.start(), m.end()) + ")");
        each(code, "(?<=\\bif \\().*(?=\\) \\{)", m -> "true || (" + source.substring(m.start(), m.end()) + ")");
        each(code, "(?<=\\bwhile \\().*(?=\\) \\{)", m -> "false && (" + source.substring(m.start(), m.end()) + ")");
        each(code, STATEMENT, m -> ";");
        each(source, "(?m)^ +case .*: return .*;$", m -> "");
    }

    private interface Other {
        String of(Matcher m);
    }

    private void each(String code, String pattern, Other other) {
        Matcher m = Pattern.compile(pattern).matcher(code);
        while (m.find()) {
            breaks.add(new Break(m.start(), m.end(), other.of(m)));
        }
    }

    private static String plus(String number, int more) {
        return new java.math.BigInteger(number).add(java.math.BigInteger.valueOf(more)).toString();
    }

    /** The source with comments, signs and strings painted over. */
    private String withoutTexts() {
        StringBuilder b = new StringBuilder(source);
        Matcher m = Pattern.compile("(?s)/\\*.*?\\*/|//[^\n]*|'(?:\\\\.|[^'])'|\"[^\"]*\"").matcher(source);
        while (m.find()) {
            for (int k = m.start(); k < m.end(); k++) {
                b.setCharAt(k, source.charAt(k) == '\n' ? '\n' : '~');
            }
        }
        return b.toString();
    }

    // ---- the broken class

    private static final class Memory extends ForwardingJavaFileManager<JavaFileManager> {
        final Map<String, ByteArrayOutputStream> made = new HashMap<>();

        Memory(JavaFileManager files) {
            super(files);
        }

        @Override
        public JavaFileObject getJavaFileForOutput(Location where, String name, JavaFileObject.Kind kind, FileObject from) {
            ByteArrayOutputStream bytes = new ByteArrayOutputStream();
            made.put(name, bytes);
            return new SimpleJavaFileObject(URI.create("memory:///" + name + kind.extension), kind) {
                @Override
                public OutputStream openOutputStream() {
                    return bytes;
                }
            };
        }
    }

    /** Finds the broken class here, and all test classes anew, so that no two breaks share any. */
    private final class Finder extends ClassLoader {
        private final Map<String, ByteArrayOutputStream> broken;

        Finder(Map<String, ByteArrayOutputStream> broken) {
            super(ClassLoader.getPlatformClassLoader());
            this.broken = broken;
        }

        @Override
        protected Class<?> findClass(String name) throws ClassNotFoundException {
            try {
                byte[] bytes = broken.containsKey(name) ? broken.get(name).toByteArray()
                        : Files.readAllBytes(tests.resolve(name + ".class"));
                return defineClass(name, bytes, 0, bytes.length);
            } catch (IOException e) {
                throw new ClassNotFoundException(name, e);
            }
        }
    }

    /** null if it does not compile. */
    private static Map<String, ByteArrayOutputStream> compile(String code) {
        JavaCompiler javac = ToolProvider.getSystemJavaCompiler();
        DiagnosticCollector<JavaFileObject> silent = new DiagnosticCollector<>();
        Memory memory = new Memory(javac.getStandardFileManager(silent, null, null));
        JavaFileObject file = new SimpleJavaFileObject(URI.create("memory:///SungLines.java"), JavaFileObject.Kind.SOURCE) {
            @Override
            public CharSequence getCharContent(boolean ignoreEncodingErrors) {
                return code;
            }
        };
        return javac.getTask(null, memory, silent, List.of("-nowarn", "-proc:none"), null, List.of(file)).call() ? memory.made : null;
    }

    // ---- the tests

    private Outcome outcome(Break one) throws InterruptedException {
        Map<String, ByteArrayOutputStream> broken = compile(source.substring(0, one.from) + one.by + source.substring(one.to));
        if (broken == null) {
            return new Outcome(one, null);
        }
        Set<String> seen = Collections.synchronizedSet(new TreeSet<>());
        Thread run = new Thread(() -> runTests(new Finder(broken), seen));
        run.setDaemon(true);
        run.start();
        run.join(MILLIS_FOR_ONE);
        stop(run);
        return new Outcome(one, seen);
    }

    // a break may make a loop that never ends, and no other means ends it
    @SuppressWarnings({"deprecation", "removal"})
    private static void stop(Thread run) {
        if (run.isAlive()) {
            run.stop();
        }
    }

    private static void runTests(Finder finder, Set<String> seen) {
        try {
            Method run = finder.loadClass("EdgeCase").getDeclaredMethod("run", Method.class);
            run.setAccessible(true);
            for (Method test : testsBy(finder)) {
                // taken away again below: a test that is still there when time is over has seen the break, too
                seen.add(test.getName());
                if (((List<?>) run.invoke(null, test)).isEmpty()) {
                    seen.remove(test.getName());
                }
            }
        } catch (ReflectiveOperationException e) {
            seen.add("could not run: " + e);
        }
    }

    private static List<Method> testsBy(Finder finder) throws ReflectiveOperationException {
        Method tests = finder.loadClass("EdgeTests").getDeclaredMethod("tests");
        tests.setAccessible(true);
        List<Method> all = new ArrayList<>();
        for (Object test : (List<?>) tests.invoke(null)) {
            all.add((Method) test);
        }
        return all;
    }

    // ---- what is told

    private void tell(PrintStream out) throws Exception {
        ExecutorService workers = Executors.newFixedThreadPool(Runtime.getRuntime().availableProcessors());
        List<Future<Outcome>> outcomes = new ArrayList<>();
        for (Break one : breaks) {
            outcomes.add(workers.submit(() -> outcome(one)));
        }
        Map<String, Integer> sees = new TreeMap<>();
        int compiled = 0;
        int unseen = 0;
        for (Future<Outcome> each : outcomes) {
            Outcome o = each.get();
            if (o.seen == null) {
                continue;
            }
            compiled++;
            o.seen.forEach(test -> sees.merge(test, 1, Integer::sum));
            if (o.seen.isEmpty()) {
                unseen++;
                out.println("unseen: " + place(o.one));
            }
        }
        int blind = 0;
        for (Method test : testsBy(new Finder(compile(source)))) {
            if (!sees.containsKey(test.getName())) {
                blind++;
                out.println("sees no break: " + test.getName());
            }
        }
        out.println(compiled + " breaks, " + unseen + " that no test sees; " + blind + " tests that see none");
    }

    private String place(Break one) {
        int line = (int) source.substring(0, one.from).chars().filter(c -> c == '\n').count();
        return (line + 1) + ": " + source.split("\n", -1)[line].trim() + "   ["
                + source.substring(one.from, one.to).trim() + " -> " + one.by.trim() + "]";
    }
}
