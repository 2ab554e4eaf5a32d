import java.io.IOException;
import java.lang.reflect.Method;
import java.nio.file.Files;
import java.nio.file.Path;
import java.util.ArrayList;
import java.util.List;
import java.util.regex.Matcher;
import java.util.regex.Pattern;

/** Runs every test of a boundary case, and looks whether they cover the document's words. */
public final class EdgeTests {
    private static final Path DOCUMENT = Path.of("../shared/DOC.md");
    // of the Terms: words that tell what stands where, and promise nothing
    private static final List<String> PROMISE_NOTHING = List.of("LETTERS a to h; MORAE of a LETTER:", "```text", "```",
            "======== 2", "Ahead of the calls .*? the interface says: ---- [a-z, ]+\\.");

    private EdgeTests() {
    }

    static List<Class<? extends EdgeCase>> kinds() {
        return List.of(EdgesOfRows.class, EdgesOfTheMetre.class, EdgesOfTooMuch.class, EdgesOfOrders.class, EdgesOfStates.class,
                EdgesOfPhrases.class, EdgesOfTheLine.class, EdgesOfLinesMade.class, EdgesOfTexts.class);
    }

    static List<Method> tests() {
        List<Method> all = new ArrayList<>();
        for (Class<? extends EdgeCase> kind : kinds()) {
            all.addAll(EdgeCase.testsOf(kind));
        }
        return all;
    }

    public static void main(String[] args) throws IOException {
        Check check = new Check();
        for (Method test : tests()) {
            List<String> wrong = EdgeCase.run(test);
            check.that(test.getName() + wrong, wrong.isEmpty());
        }
        if (Files.exists(DOCUMENT)) {
            coverDocument(Files.readString(DOCUMENT), check);
        }
        System.out.println("EdgeTests: " + tests().size() + " boundary cases");
        check.end("EdgeTests");
    }

    // ---- the document's words

    private static void coverDocument(String document, Check check) {
        String plain = document.replaceAll("\\s+", " ");
        String use = between(plain, "An object is used", "## The public face");
        String terms = between(plain, "## Terms ", "## Promise 1:").substring("## Terms ".length());
        for (String nothing : PROMISE_NOTHING) {
            terms = terms.replaceAll(nothing.startsWith("Ahead") ? nothing : Pattern.quote(nothing), " ");
        }
        cover("terms", (use + terms).replaceAll("\\s+", " "), check);
        Matcher promise = Pattern.compile("## Promise (\\d+): [^`]*`[^`]*`: (.*?)(?= ## )").matcher(plain);
        int promises = 0;
        while (promise.find()) {
            promises++;
            cover(String.format("p%02d", Integer.parseInt(promise.group(1))), promise.group(2), check);
        }
        check.due("promises found in the document", promises, 25);
    }

    private static String between(String text, String from, String to) {
        return text.substring(text.indexOf(from), text.indexOf(to));
    }

    /** Every quotation of the tests named so stands in these words, and no word is quoted by none. */
    private static void cover(String name, String words, Check check) {
        StringBuilder left = new StringBuilder(words);
        for (Method test : tests()) {
            if (!test.getName().startsWith(name + "_")) {
                continue;
            }
            for (String quoted : test.getAnnotation(Says.class).value()) {
                int at = words.indexOf(quoted);
                check.that(test.getName() + ": the document says '" + quoted + "'", at >= 0);
                for (; at >= 0; at = words.indexOf(quoted, at + 1)) {
                    left.replace(at, at + quoted.length(), " ".repeat(quoted.length()));
                }
            }
        }
        String bare = left.toString().replaceAll("[\\s.;:,]+", " ").trim();
        check.that(name + ": no test is for '" + bare + "'", bare.isEmpty());
    }
}
