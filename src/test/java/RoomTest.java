import com.sun.management.ThreadMXBean;
import java.lang.management.ManagementFactory;
import java.lang.reflect.Array;
import java.lang.reflect.Field;
import java.lang.reflect.Modifier;
import java.util.ArrayDeque;
import java.util.Collections;
import java.util.Deque;
import java.util.IdentityHashMap;
import java.util.Set;

/**
 * All calls of one run live in one room, and nothing of it is given back: what the dearest call
 * takes, taken as often as a run has calls, has to go in there. What an object holds is counted; so
 * that nothing else is taken, the bytes that are taken are measured, too.
 */
public final class RoomTest {
    private static final int CALLS = 512;
    private static final long ROOM_OBJECTS = 600_000;
    private static final long ROOM_ELEMENTS = 7_300_000;

    /** A world full of events takes some calls to make, so that a run has room for fewer of them. */
    private static final int CALLS_OF_A_FULL_YARD = 10;

    private static final ThreadMXBean MEMORY = (ThreadMXBean) ManagementFactory.getThreadMXBean();
    private static int wrong = 0;
    private static long sum = 0;

    private static void wrong(String what) {
        wrong++;
        System.out.println(what);
    }

    /** Eight parts that send and print as much as rules can, on two lines. */
    private static WarpYard fullYard() {
        WarpYard y = new WarpYard();
        for (int p = 0; p < 8; p++) {
            y.part(p % 2);
            for (int i = 0; i < 4; i++) {
                y.rule(p, 2, 0, p + i, 1 + i);
                y.rule(p, 5, 0, 0, 0);
            }
        }
        for (int i = 0; i < 8; i++) y.start(i, 1 + i, i);
        for (int i = 0; i < 20; i++) {
            y.run(i % 2, 9);
            if (i % 3 == 0) y.deliverAll();
        }
        return y;
    }

    /** Nine calls make 393 events and their doings, the tenth compares them with a slow line's. */
    private static WarpYard quickFullYard() {
        WarpYard y = new WarpYard();
        y.part(0);
        for (int i = 0; i < 4; i++) y.rule(0, 2, 0, 0, 1);
        y.start(0, 0, 0);
        y.run(0, 200);
        y.run(0, 200);
        y.same();
        return y;
    }

    private static int call(WarpYard y, int kind, int i) {
        switch (kind) {
            case 0: return y.same();
            case 1: return y.settled(i % 8, 0);
            case 2: return y.out(i, 0) + y.printed(i);
            case 3: return y.count(5) + y.count(6);
            case 4: return y.run(i % 2, 200);
            case 5: return y.deliverAll() + y.move(i % 8, i % 3);
            default: return y.failed(0) + y.floor(0) + y.told(i % 8, 4) + y.event(i % 400, 5);
        }
    }

    /** How many objects and arrays something holds, itself too, and how many fields and elements. */
    private static long[] size(Object root) throws IllegalAccessException {
        Set<Object> seen = Collections.newSetFromMap(new IdentityHashMap<>());
        Deque<Object> open = new ArrayDeque<>();
        open.add(root);
        seen.add(root);
        long elements = 0;
        while (!open.isEmpty()) {
            Object o = open.remove();
            elements += o.getClass().isArray() ? lookAtElements(o, seen, open) : lookAtFields(o, seen, open);
        }
        return new long[] {seen.size(), elements};
    }

    private static long lookAtElements(Object array, Set<Object> seen, Deque<Object> open) {
        int length = Array.getLength(array);
        if (array instanceof Object[] objects) {
            for (Object o : objects) if (o != null && seen.add(o)) open.add(o);
        }
        return length;
    }

    private static long lookAtFields(Object object, Set<Object> seen, Deque<Object> open) throws IllegalAccessException {
        long fields = 0;
        for (Field field : object.getClass().getDeclaredFields()) {
            if (Modifier.isStatic(field.getModifiers())) continue;
            fields++;
            field.setAccessible(true);
            Object o = field.getType().isPrimitive() ? null : field.get(object);
            if (o != null && seen.add(o)) open.add(o);
        }
        return fields;
    }

    private static void lookAtSize(String what, WarpYard y, int times) throws IllegalAccessException {
        long[] size = size(y);
        if (size[0] * times > ROOM_OBJECTS || size[1] * times > ROOM_ELEMENTS) {
            wrong(what + " holds " + size[0] + " objects and " + size[1] + " elements: too many " + times + " times");
        }
    }

    /** Calls of one kind on a full object take less room than it holds: eight bytes an element, and an object's head. */
    private static void lookAtCalls(int kind) throws IllegalAccessException {
        long thread = Thread.currentThread().getId();
        long before = MEMORY.getThreadAllocatedBytes(thread);
        WarpYard y = fullYard();
        for (int i = 0; i < CALLS; i++) sum += call(y, kind, i);
        long bytes = MEMORY.getThreadAllocatedBytes(thread) - before;
        long[] size = size(y);
        if (bytes > 24 * size[0] + 8 * size[1]) {
            wrong("calls of kind " + kind + " took " + bytes + " bytes; the object holds " + size[0] + " objects and "
                    + size[1] + " elements");
        }
    }

    public static void main(String[] args) throws IllegalAccessException {
        lookAtSize("a new object", new WarpYard(), CALLS + 1);
        lookAtSize("a full object", quickFullYard(), CALLS / CALLS_OF_A_FULL_YARD + 1);
        // The first calls of all take room for the machine's own use, too.
        for (int kind = 0; kind < 7; kind++) sum += call(fullYard(), kind, 1);
        for (int kind = 0; kind < 7; kind++) lookAtCalls(kind);
        System.out.println(wrong == 0 ? "there is room enough" : wrong + " runs take too much room");
        if (wrong != 0) System.exit(1);
    }
}
