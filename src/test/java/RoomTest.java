import java.lang.management.ManagementFactory;
import java.lang.reflect.Array;
import java.lang.reflect.Field;
import java.lang.reflect.Modifier;
import java.util.ArrayDeque;
import java.util.Collections;
import java.util.Deque;
import java.util.IdentityHashMap;
import java.util.Set;

/**
 * All calls of a run live in one room: some 600,000 objects and 7,300,000 fields and elements. An
 * object must stay far below that whatever its 512 calls are, and a call must not make what it drops.
 */
public final class RoomTest {
    private static final int CALLS = 512;
    private static final int MOST_OBJECTS = 1000, MOST_ELEMENTS = 300000, MOST_WHEN_NEW = 6000;
    private static final Checks C = new Checks();

    public static void main(String[] args) throws IllegalAccessException {
        NapVoyage fresh = new NapVoyage();
        int[] few = count(fresh);
        C.holds("a new object is small: " + few[1], few[1] <= MOST_WHEN_NEW && few[0] <= 100);
        NapVoyage x = new NapVoyage();
        dearestRun(x);
        int[] many = count(x);
        C.holds("objects: " + many[0], many[0] <= MOST_OBJECTS);
        C.holds("fields and elements: " + many[1], many[1] <= MOST_ELEMENTS);
        nothingIsDropped();
        C.end("RoomTest");
    }

    private static void dearestRun(NapVoyage x) {
        for (int way = 0; way <= 1; way++) {
            x.leg(way, 24, 100, 0);
            x.leg(way, 24, 7, 0);
        }
        for (int i = 4; i < CALLS; i += 8) {
            x.nap(1 + i / 8 % 3, 1, i);
            x.round(i % 21, 24);
            x.logged(i % 2, i % 21, 24, i % 60);
            x.soonest(i % 2, 20, 24, 1000000);
            x.image(i / 8 % 2);
            x.restore(i / 8 % 2);
            x.share(i % 2, i % 21);
            x.thumb(i % 2, i % 4, 20, 1);
        }
    }

    /** What a second dearest run makes is what it keeps, but for little. */
    private static void nothingIsDropped() {
        if (!(ManagementFactory.getThreadMXBean() instanceof com.sun.management.ThreadMXBean bean)) {
            return;
        }
        long id = Thread.currentThread().getId();
        long before = bean.getThreadAllocatedBytes(id);
        dearestRun(new NapVoyage());
        long made = bean.getThreadAllocatedBytes(id) - before;
        C.holds("bytes made by a dearest run: " + made, made <= 4L * MOST_ELEMENTS + 100000);
    }

    /** Objects and arrays that can be reached, and their fields and elements. */
    private static int[] count(Object root) throws IllegalAccessException {
        Set<Object> seen = Collections.newSetFromMap(new IdentityHashMap<>());
        Deque<Object> open = new ArrayDeque<>();
        open.add(root);
        seen.add(root);
        int elements = 0;
        while (!open.isEmpty()) {
            Object o = open.remove();
            if (o.getClass().isArray()) {
                elements += Array.getLength(o);
                for (int i = 0; !o.getClass().getComponentType().isPrimitive() && i < Array.getLength(o); i++) {
                    reach(Array.get(o, i), seen, open);
                }
                continue;
            }
            for (Field f : o.getClass().getDeclaredFields()) {
                if (!Modifier.isStatic(f.getModifiers())) {
                    elements++;
                    f.setAccessible(true);
                    reach(f.getType().isPrimitive() ? null : f.get(o), seen, open);
                }
            }
        }
        return new int[] {seen.size(), elements};
    }

    private static void reach(Object o, Set<Object> seen, Deque<Object> open) {
        if (o != null && seen.add(o)) {
            open.add(o);
        }
    }
}
