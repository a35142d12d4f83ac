import java.lang.management.ManagementFactory;
import java.lang.reflect.Array;
import java.lang.reflect.Field;
import java.lang.reflect.Modifier;
import java.util.Collections;
import java.util.IdentityHashMap;
import java.util.Set;

/** All calls of a run live in one room: an object is small, and its calls make nothing. */
public final class RoomTest {
    private static final Check check = new Check();
    private static final int MOST_OBJECTS = 60;
    private static final int MOST_CELLS = 8000;
    private static final int CALLS = 512;

    public static void main(String[] args) throws Exception {
        check.sentence("one room for all calls of a run: the object");
        Set<Object> met = Collections.newSetFromMap(new IdentityHashMap<>());
        int cells = cellsOf(new FretHands(), met);
        check.due("more than " + MOST_OBJECTS + " objects and arrays", met.size() > MOST_OBJECTS ? met.size() : 0, 0);
        check.due("more than " + MOST_CELLS + " fields and elements", cells > MOST_CELLS ? cells : 0, 0);
        check.sentence("one room for all calls of a run: the calls");
        callsMakeNothing();
        check.end("RoomTest");
    }

    /** Fields and elements of an object and of all that it holds. */
    private static int cellsOf(Object object, Set<Object> met) throws Exception {
        if (object == null || !met.add(object)) {
            return 0;
        }
        if (object.getClass().isArray()) {
            check.due("an array of objects", object.getClass().getComponentType().isPrimitive() ? 0 : 1, 0);
            return Array.getLength(object);
        }
        int sum = 0;
        for (Field field : object.getClass().getDeclaredFields()) {
            if (Modifier.isStatic(field.getModifiers())) {
                continue;
            }
            sum++;
            if (!field.getType().isPrimitive()) {
                field.setAccessible(true);
                sum += cellsOf(field.get(object), met);
            }
        }
        return sum;
    }

    private static void callsMakeNothing() {
        if (!(ManagementFactory.getThreadMXBean() instanceof com.sun.management.ThreadMXBean counter)
                || !counter.isThreadAllocatedMemorySupported()) {
            System.out.println("this machine does not count what a thread makes");
            return;
        }
        // The first rounds load classes and let the machine settle; the last one is counted.
        long made = 0;
        for (int round = 0; round < 3; round++) {
            FretHands x = new FretHands();
            long before = counter.getThreadAllocatedBytes(Thread.currentThread().getId());
            everyCall(x);
            made = counter.getThreadAllocatedBytes(Thread.currentThread().getId()) - before;
        }
        check.due("more than a few bytes made", made > 1000 ? made : 0, 0);
    }

    /** All calls of the face, the dearest ones time and again. */
    private static void everyCall(FretHands x) {
        x.clear();
        x.neck(24);
        x.capo(0);
        x.weight(1, 2);
        for (int s = 0; s < 7; s++) {
            x.string(40);
        }
        for (int e = 0; e < 40; e++) {
            x.event(60);
            x.pitch(61);
            x.pitch(62);
            x.pitch(63);
        }
        x.bind(3, 0, 2);
        x.told(3);
        for (int call = 200; call < CALLS; call += 12) {
            x.plan();
            x.planned(5, 6);
            x.ties();
            x.grips(0);
            x.grip(0, 700, 5);
            x.at(39, 3);
            x.bound(3, 0);
            x.fret(6, 60);
            x.write();
            x.tape(500);
            x.read();
            x.place();
        }
        x.sign(124);
        x.read();
        x.empty();
        x.drop();
    }
}
