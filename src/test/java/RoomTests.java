import java.lang.management.ManagementFactory;
import java.lang.reflect.Array;
import java.lang.reflect.Field;
import java.lang.reflect.Modifier;
import java.util.ArrayDeque;
import java.util.Collections;
import java.util.Deque;
import java.util.IdentityHashMap;
import java.util.Set;

/** All calls of one run live in one room: what an object keeps is small and does not grow, and no call makes an object. */
public final class RoomTests {
    private static final int CALLS = 512;
    private static final int MOST_OBJECTS = 100;
    private static final int MOST_ELEMENTS = 1000;
    private static final String TEXT = "d0,0,1;d1,0,0;d2,1,0;d3,5,0;e0,63,0,1;e1,3,9,1;e2,63,3,0;t20,40,0,1;v1;";
    private static final Check check = new Check("RoomTests");

    private RoomTests() {
    }

    public static void main(String[] args) {
        AlarmRing ring = new AlarmRing();
        int[] atFirst = kept(ring);
        check.holds("a new object keeps " + atFirst[0] + " objects", atFirst[0] <= MOST_OBJECTS);
        check.holds("a new object keeps " + atFirst[1] + " fields and elements", atFirst[1] <= MOST_ELEMENTS);
        use(ring);
        int[] then = kept(ring);
        check.due("objects behind " + CALLS + " calls", then[0], atFirst[0]);
        check.due("fields and elements behind " + CALLS + " calls", then[1], atFirst[1]);
        noCallMakesAnObject();
        check.end();
    }

    /** How many objects can be come to from this one, itself too, and how many fields and elements they have in all. */
    private static int[] kept(Object first) {
        Set<Object> seen = Collections.newSetFromMap(new IdentityHashMap<>());
        Deque<Object> open = new ArrayDeque<>();
        int[] kept = new int[2];
        open.push(first);
        while (!open.isEmpty()) {
            Object next = open.pop();
            if (seen.add(next)) {
                kept[0]++;
                kept[1] += next.getClass().isArray() ? elements(next, open) : fields(next, open);
            }
        }
        return kept;
    }

    private static int elements(Object array, Deque<Object> open) {
        int length = Array.getLength(array);
        if (!array.getClass().getComponentType().isPrimitive()) {
            for (int k = 0; k < length; k++) {
                meet(Array.get(array, k), open);
            }
        }
        return length;
    }

    private static int fields(Object of, Deque<Object> open) {
        int fields = 0;
        for (Field field : of.getClass().getDeclaredFields()) {
            if (!Modifier.isStatic(field.getModifiers())) {
                fields++;
                field.setAccessible(true);
                if (!field.getType().isPrimitive()) {
                    meet(valueOf(field, of), open);
                }
            }
        }
        return fields;
    }

    private static Object valueOf(Field field, Object of) {
        try {
            return field.get(of);
        } catch (IllegalAccessException e) {
            throw new IllegalStateException(e);
        }
    }

    private static void meet(Object met, Deque<Object> open) {
        if (met != null) {
            open.push(met);
        }
    }

    /** Each kind of call, taken and refused, 512 of them. */
    private static int use(AlarmRing ring) {
        int sum = 0;
        int made = 0;
        for (int k = 0; k < TEXT.length(); k++) {
            sum += ring.write(TEXT.charAt(k));
            made++;
        }
        sum += ring.fault() + ring.lay();
        made += 2;
        for (int round = 0; made + 20 <= CALLS; round++) {
            int x = round % 4;
            sum += ring.read(x, 10 + 30 * (round % 3)) + ring.wire(x + 1, round % 3) + ring.day(round % 2);
            sum += ring.tick(1 + round) + ring.silence() + ring.device(x, 7) + ring.device(x, 8);
            sum += ring.stop(x, 1, 2) + ring.stop(x, 2, 2) + ring.wireOf(x, 2) + ring.worst(1) + ring.help(0);
            sum += ring.zone(x, 2) + ring.effect(x, 4) + ring.count(2) + ring.fault() + ring.write('x') + ring.read(99, 0);
            sum += round % 5 == 0 ? ring.reset() : round % 5 == 1 ? ring.undo() : round % 5 == 2 ? ring.lay() : ring.count(11);
            sum += round % 7 == 0 ? ring.wipe() : ring.count(10);
            made += 20;
        }
        return sum;
    }

    private static void noCallMakesAnObject() {
        if (!(ManagementFactory.getThreadMXBean() instanceof com.sun.management.ThreadMXBean bean)
            || !bean.isThreadAllocatedMemorySupported()) {
            System.out.println("RoomTests: this machine does not tell what is made; left out");
            return;
        }
        // Used once ahead, so that what the machine itself makes on a first use is not counted.
        use(new AlarmRing());
        long self = Thread.currentThread().getId();
        bean.getThreadAllocatedBytes(self);
        AlarmRing ring = new AlarmRing();
        long empty = bean.getThreadAllocatedBytes(self);
        empty = bean.getThreadAllocatedBytes(self) - empty;
        long before = bean.getThreadAllocatedBytes(self);
        use(ring);
        long made = bean.getThreadAllocatedBytes(self) - before;
        check.due("bytes made by " + CALLS + " calls", made - empty, 0);
    }
}
