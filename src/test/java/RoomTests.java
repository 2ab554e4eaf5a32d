import java.lang.management.ManagementFactory;
import java.lang.reflect.Array;
import java.lang.reflect.Field;
import java.lang.reflect.Modifier;
import java.util.IdentityHashMap;
import java.util.Map;

/** All calls of one run share one room of objects and elements: an object takes little, its calls nothing. */
public final class RoomTests {
    private static final Check C = new Check();
    private static final Map<Object, Boolean> SEEN = new IdentityHashMap<>();
    private static long objects;
    private static long elements;

    public static void main(String[] args) throws ReflectiveOperationException {
        SungLines x = new SungLines();
        count(x);
        System.out.println("RoomTests: an object is " + objects + " objects, " + elements + " elements");
        C.that("512 new objects find room: objects", objects * 512 < 600_000);
        C.that("512 new objects find room: elements", elements * 512 < 7_300_000);
        callsMakeNothing(x);
        C.end("RoomTests");
    }

    private static void count(Object o) throws ReflectiveOperationException {
        if (o == null || SEEN.put(o, true) != null) {
            return;
        }
        objects++;
        if (o.getClass().isArray()) {
            elements += Array.getLength(o);
            if (!o.getClass().getComponentType().isPrimitive()) {
                for (int k = 0; k < Array.getLength(o); k++) {
                    count(Array.get(o, k));
                }
            }
            return;
        }
        for (Field f : o.getClass().getDeclaredFields()) {
            if (!Modifier.isStatic(f.getModifiers())) {
                elements++;
                f.setAccessible(true);
                if (!f.getType().isPrimitive()) {
                    count(f.get(o));
                }
            }
        }
    }

    private static long allocated() {
        com.sun.management.ThreadMXBean bean = (com.sun.management.ThreadMXBean) ManagementFactory.getThreadMXBean();
        return bean.getThreadAllocatedBytes(Thread.currentThread().getId());
    }

    private static void callsMakeNothing(SungLines x) {
        round(x);
        long before = allocated();
        long noise = allocated() - before;
        before = allocated();
        for (int k = 0; k < 100; k++) {
            round(x);
        }
        long took = allocated() - before - noise;
        C.that("2,400 calls made objects of " + took + " bytes", took < 20_000);
    }

    private static void round(SungLines x) {
        x.phrase(0, 1);
        x.phrase(1, 15);
        x.letter(1);
        x.letter(5);
        x.begins(15);
        x.ends(15);
        x.follows(0, 15);
        x.of(0, 3);
        x.cuts();
        x.best(0, 0);
        x.sings(0);
        x.fixes(0, 0);
        x.metre(20);
        x.marks(3, 1);
        x.made();
        x.row(1, 0);
        x.weight(2, NONE);
        x.picks(2, 7, 0);
        x.clear();
        x.type('t');
        x.type('8');
        x.type(';');
        x.reads();
        x.told(0);
        x.digest();
        x.drops(0);
        x.wipes();
        x.back();
    }

    private static final int NONE = -1;
}
