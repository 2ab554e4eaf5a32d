import java.lang.reflect.Constructor;
import java.lang.reflect.Field;
import java.lang.reflect.Method;
import java.lang.reflect.Modifier;
import java.util.Arrays;
import java.util.Set;
import java.util.TreeSet;
import java.util.stream.Collectors;

/** The public face is the document's and no more; the rules of LANGUAGE.md that can be seen from outside. */
public final class FaceTests {
    private static final String[] METHODS = {
        "int phrase(int,int)", "int drops(int)", "int begins(int)", "int ends(int)", "int follows(int,int)", "int of(int,int)",
        "int letter(int)", "int wipes()", "long cuts()", "int best(int,int)", "int sings(int)", "int fixes(int,int)",
        "int metre(int)", "int marks(int,int)", "long made()", "int row(long,int)", "long weight(int,int)",
        "int picks(int,int,int)", "int type(int)", "int clear()", "int reads()", "int back()", "int told(int)", "long digest()"};
    private static final Check C = new Check();

    public static void main(String[] args) throws ReflectiveOperationException {
        Class<?> face = SungLines.class;
        C.that("public and final", Modifier.isPublic(face.getModifiers()) && Modifier.isFinal(face.getModifiers()));
        methods(face);
        fields(face);
        constants();
        Constructor<?>[] made = face.getDeclaredConstructors();
        C.that("one public constructor", made.length == 1 && Modifier.isPublic(made[0].getModifiers())
                && made[0].getParameterCount() == 0);
        nested(face);
        C.end("FaceTests");
    }

    private static String told(Method m) {
        return m.getReturnType() + " " + m.getName() + "("
                + Arrays.stream(m.getParameterTypes()).map(Class::getName).collect(Collectors.joining(",")) + ")";
    }

    private static void methods(Class<?> face) {
        Set<String> open = new TreeSet<>();
        for (Method m : face.getDeclaredMethods()) {
            C.that(m + " takes seven at most", m.getParameterCount() <= 7);
            if (Modifier.isPrivate(m.getModifiers())) {
                C.that(m + " bears no public method's name", !publicNames().contains(m.getName()));
            } else if (!m.isSynthetic()) {
                C.that(m + " is public and no static one", Modifier.isPublic(m.getModifiers()) && !Modifier.isStatic(m.getModifiers()));
                open.add(told(m));
            }
        }
        C.that("methods are " + open, open.equals(new TreeSet<>(Arrays.asList(METHODS))));
    }

    private static Set<String> publicNames() {
        return Arrays.stream(METHODS).map(m -> m.replaceAll(".* |\\(.*", "")).collect(Collectors.toSet());
    }

    private static void fields(Class<?> face) {
        Set<String> open = new TreeSet<>();
        for (Field f : face.getDeclaredFields()) {
            boolean shut = Modifier.isPrivate(f.getModifiers());
            if (!shut) {
                open.add(f.getName());
            }
            C.that(f + " is final if static", !Modifier.isStatic(f.getModifiers()) || Modifier.isFinal(f.getModifiers()));
        }
        C.that("fields are " + open, open.equals(new TreeSet<>(Set.of("NONE", "BAD", "NO", "FULL", "MUCH"))));
    }

    private static void constants() {
        C.due("NONE", SungLines.NONE, -1);
        C.due("BAD", SungLines.BAD, -2);
        C.due("NO", SungLines.NO, -3);
        C.due("FULL", SungLines.FULL, -4);
        C.due("MUCH", SungLines.MUCH, -5);
    }

    private static void nested(Class<?> face) {
        Class<?>[] inside = face.getDeclaredClasses();
        C.that("some twelve classes at most", inside.length < 12);
        for (Class<?> c : inside) {
            C.that(c + " is static", Modifier.isStatic(c.getModifiers()) && !Modifier.isPublic(c.getModifiers()));
            C.that(c + " has some twenty fields at most", c.getDeclaredFields().length <= 20);
            for (Method m : c.getDeclaredMethods()) {
                C.that(m + " takes seven at most", m.getParameterCount() <= 7);
                C.that(m + " bears no public method's name", !publicNames().contains(m.getName()));
            }
        }
    }
}
