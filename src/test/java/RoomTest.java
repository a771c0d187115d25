import com.sun.management.ThreadMXBean;
import java.lang.management.ManagementFactory;
import java.lang.reflect.Array;
import java.lang.reflect.Field;
import java.lang.reflect.Modifier;
import java.util.ArrayDeque;
import java.util.Collections;
import java.util.Deque;
import java.util.IdentityHashMap;
import java.util.Set;

/**
 * All calls of a run share one room, so an object that has been made full stays within what README.md
 * tells, and calls that make no version make nothing at all.
 */
public final class RoomTest {
    private static final int MOST_OBJECTS = 1600;
    private static final int MOST_PARTS = 50000;
    private static final int TIMES = 200;
    private static final int LEAST_OBJECT = 8;
    private static final String[] ASKING = {"version 9 5", "about 9 4", "common 9 8", "versions true", "seal 0 6 false",
        "seal 0 7 true", "put 1 8", "take 8", "row 0 1", "at 0 399", "weight 0 399", "bit 1 9 399", "ones 2 7 400",
        "kth 0 0 400 399", "rank 0 0 400 9", "between 0 0 400 0 9", "next 0 0 400 0", "prior 0 0 400 9",
        "median 2 0 400", "half 0 0 400", "often 0 0 400 0", "distinct 0 0 400", "sum 0 0 400 9",
        "differ 0 0 400 1 0", "first 0 1", "step 9", "found -6", "push 0 1 1 0", "cut 0 -1 0", "join 0 0 0 400 0",
        "turn 0 400 1 1"};

    private final Set<Object> seen = Collections.newSetFromMap(new IdentityHashMap<>());
    private final Deque<Object> open = new ArrayDeque<>();
    private int parts = 0;

    public static void main(String[] args) throws Exception {
        aFullObject();
        askingMakesNothing();
        Check.end();
    }

    /** 500 versions and 20000 places made, as much as the document lets an object keep. */
    private static void aFullObject() throws Exception {
        Run x = Edges.made("room", 20000);
        while (x.callCount() < Run.MOST_CALLS - 2 && x.twin().versions(false) < 500) {
            x.make("cut 0 400 3");
        }
        x.due("versions false", 500);
        RoomTest room = new RoomTest();
        room.walk(x.twin());
        Check.due("room, objects: " + room.seen.size(), room.seen.size() < MOST_OBJECTS ? 1 : 0, 1);
        Check.due("room, fields and elements: " + room.parts, room.parts < MOST_PARTS ? 1 : 0, 1);
        Check.due("room, the places were seen", room.parts > 2 * 20000 ? 1 : 0, 1);
    }

    private void walk(Object from) throws Exception {
        reach(from);
        while (!open.isEmpty()) {
            Object now = open.pop();
            if (now.getClass().isArray()) {
                walkArray(now);
            } else {
                walkFields(now);
            }
        }
    }

    private void reach(Object some) {
        if (some != null && seen.add(some)) {
            open.push(some);
        }
    }

    private void walkArray(Object array) {
        int length = Array.getLength(array);
        parts += length;
        for (int i = 0; i < length && !array.getClass().getComponentType().isPrimitive(); i++) {
            reach(Array.get(array, i));
        }
    }

    private void walkFields(Object some) throws Exception {
        for (Field f : some.getClass().getDeclaredFields()) {
            if (!Modifier.isStatic(f.getModifiers())) {
                parts++;
                f.setAccessible(true);
                if (!f.getType().isPrimitive()) {
                    reach(f.get(some));
                }
            }
        }
    }

    /** A call that makes one object each time would take at least eight bytes each time. */
    private static void askingMakesNothing() {
        if (!(ManagementFactory.getThreadMXBean() instanceof ThreadMXBean meter)
            || !meter.isThreadAllocatedMemorySupported()) {
            return;
        }
        long thread = Thread.currentThread().getId();
        for (String text : ASKING) {
            RankShelf shelf = Edges.rowOf400("room").make("seal 0 1 false", "seal 0 2 true", "kth 0 0 400 0").twin();
            Call call = Call.of(text);
            call.ask(shelf);
            meter.getThreadAllocatedBytes(thread);
            long before = meter.getThreadAllocatedBytes(thread);
            for (int i = 0; i < TIMES; i++) {
                call.ask(shelf);
            }
            long taken = meter.getThreadAllocatedBytes(thread) - before;
            Check.due("room, bytes of " + text + ": " + taken, taken < TIMES * LEAST_OBJECT ? 1 : 0, 1);
        }
    }
}
