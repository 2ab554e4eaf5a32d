import java.lang.reflect.Constructor;
import java.lang.reflect.InvocationTargetException;
import java.lang.reflect.Method;
import java.util.ArrayList;
import java.util.Arrays;
import java.util.Comparator;
import java.util.List;

/**
 * What tests of boundary cases share. Each method with Says is one test, on a new object; its name tells
 * the promise (p02_, or terms_) and the case. They set things up by plain calls, so that a fault in reads
 * breaks no test but those of texts.
 */
abstract class EdgeCase {
    static final int NONE = -1, BAD = -2, NO = -3, FULL = -4, MUCH = -5, NOT_SO_MANY = -10;
    static final int LOW = Integer.MIN_VALUE, HIGH = Integer.MAX_VALUE;
    static final long MOST = 9223372036854775807L;
    static final int SUM = -2;

    final SungLines x = new SungLines();
    private final List<String> wrong = new ArrayList<>();
    private int asked;

    // ---- what is due

    void due(long got, long want) {
        asked++;
        if (got != want) {
            wrong.add("line " + lineOfTest() + ": answered " + got + ", due is " + want);
        }
    }

    private static int lineOfTest() {
        return StackWalker.getInstance().walk(frames -> frames.filter(f -> isTest(f.getMethodName())).findFirst()
                .map(StackWalker.StackFrame::getLineNumber).orElse(0));
    }

    void rowIs(long n, int... phrases) {
        due(x.row(n, NONE), phrases.length);
        for (int i = 0; i < phrases.length; i++) {
            due(x.row(n, i), phrases[i]);
        }
        due(x.row(n, phrases.length), NOT_SO_MANY);
    }

    void bestIs(int m, int sum, int... phrases) {
        due(x.best(m, SUM), sum);
        due(x.best(m, NONE), phrases.length);
        for (int i = 0; i < phrases.length; i++) {
            due(x.best(m, i), phrases[i]);
        }
        due(x.best(m, phrases.length), NOT_SO_MANY);
    }

    void pickIs(int m, int seed, int... phrases) {
        due(x.picks(m, seed, NONE), phrases.length);
        for (int i = 0; i < phrases.length; i++) {
            due(x.picks(m, seed, i), phrases[i]);
        }
        due(x.picks(m, seed, phrases.length), NOT_SO_MANY);
    }

    /** HABITS of the PHRASES from 0 on. */
    void habitsAre(int m, int... habits) {
        for (int i = 0; i < habits.length; i++) {
            due(x.of(i, 4 + m), habits[i]);
        }
    }

    /** How often refused: BAD, NO, FULL, MUCH. */
    void refusedAre(int bad, int no, int full, int much) {
        due(x.told(0), bad);
        due(x.told(1), no);
        due(x.told(2), full);
        due(x.told(3), much);
    }

    void statesAre(int states) {
        due(x.told(14), states);
    }

    // ---- setting up

    /** "0ab" is slot 0, letters ab. */
    void phrases(String... each) {
        for (String f : each) {
            x.phrase(f.charAt(0) - '0', code(f.substring(1)));
        }
    }

    /** One PHRASE a in each SLOT: 4 to the n-th rows for n letters a, or n morae. */
    void fourOfA() {
        phrases("0a", "1a", "2a", "3a");
    }

    /** As many PHRASES of one mora as there can be. */
    void twelveOfOneMora() {
        for (int s = 0; s < 3; s++) {
            for (int c = 1; c <= 4; c++) {
                x.phrase(s, c);
            }
        }
    }

    static int code(String letters) {
        int code = 0;
        for (char c : letters.toCharArray()) {
            code = code * 10 + c - 'a' + 1;
        }
        return code;
    }

    void line(String letters) {
        x.wipes();
        for (char c : letters.toCharArray()) {
            x.letter(c - 'a' + 1);
        }
    }

    /** The MAKER sings these letters so often; THE LINE stays so. */
    void sing(int m, String letters, int times) {
        line(letters);
        for (int k = 0; k < times; k++) {
            x.sings(m);
        }
    }

    /** A SEED whose X, by all, leaves v over. */
    static int seedFor(long all, long v) {
        for (int seed = 0; seed <= 999999; seed++) {
            if ((1103515245L * seed + 12345) % 2147483648L % all == v) {
                return seed;
            }
        }
        return NONE;
    }

    void type(String text) {
        x.clear();
        for (char c : text.toCharArray()) {
            x.type(c);
        }
    }

    int read(String text) {
        type(text);
        return x.reads();
    }

    // ---- all that the object holds, as one number

    /** digest without what told tells of these. */
    long imageWithout(int... whats) {
        int values = 15 + 7 * x.told(5) + x.told(6) + 39 + 2 + 3 * 5;
        long image = x.digest();
        for (int what : whats) {
            long factor = x.told(what);
            for (int k = what + 1; k < values; k++) {
                factor *= 31;
            }
            image -= factor;
        }
        return image;
    }

    /** All but how often refused. */
    long image() {
        return imageWithout(0, 1, 2, 3);
    }

    /** What a STATE holds. */
    long stateImage() {
        return imageWithout(0, 1, 2, 3, 4, 14);
    }

    // ---- running

    private static boolean isTest(String name) {
        return name.matches("(p\\d\\d|terms)_\\w+");
    }

    static List<Method> testsOf(Class<? extends EdgeCase> kind) {
        List<Method> tests = new ArrayList<>(Arrays.asList(kind.getDeclaredMethods()));
        tests.removeIf(m -> m.getAnnotation(Says.class) == null);
        tests.sort(Comparator.comparing(Method::getName));
        return tests;
    }

    /** What was not as due in this one test; empty if all was. */
    static List<String> run(Method test) {
        try {
            Constructor<?> maker = test.getDeclaringClass().getDeclaredConstructor();
            EdgeCase one = (EdgeCase) maker.newInstance();
            try {
                test.invoke(one);
            } catch (InvocationTargetException e) {
                one.wrong.add("it threw " + e.getCause());
            }
            if (one.asked == 0 || !isTest(test.getName())) {
                one.wrong.add("it is no test: it asks nothing, or its name tells no promise");
            }
            return one.wrong;
        } catch (ReflectiveOperationException e) {
            return List.of("it can not be run: " + e);
        }
    }
}
