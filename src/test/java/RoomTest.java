import java.lang.management.ManagementFactory;
import java.lang.reflect.Array;
import java.lang.reflect.Field;
import java.lang.reflect.Modifier;
import java.util.IdentityHashMap;
import java.util.Map;

/** The room that a run has: calls make nothing, and a new object is small. */
public final class RoomTest {
    private static final Due DUE = new Due();
    private static final int ROOM_OBJECTS = 600_000;
    private static final int ROOM_ELEMENTS = 7_300_000;

    public static void main(String[] args) throws IllegalAccessException {
        constructor();
        calls();
        DUE.close("RoomTest");
    }

    private static void constructor() throws IllegalAccessException {
        Map<Object, Boolean> seen = new IdentityHashMap<>();
        long elements = count(new OrderGauge(), seen);
        System.out.println("a new object: " + seen.size() + " objects, " + elements + " fields and elements");
        // A run in which every one of 512 calls makes a new object would still fit.
        DUE.holds("few objects", seen.size() * 512L < ROOM_OBJECTS);
        DUE.holds("few elements", elements * 512L < ROOM_ELEMENTS);
    }

    private static long count(Object one, Map<Object, Boolean> seen) throws IllegalAccessException {
        if (one == null || seen.put(one, true) != null) {
            return 0;
        }
        long found = 0;
        if (one.getClass().isArray()) {
            found = Array.getLength(one);
            for (int i = 0; !one.getClass().getComponentType().isPrimitive() && i < Array.getLength(one); i++) {
                found += count(Array.get(one, i), seen);
            }
            return found;
        }
        for (Field field : one.getClass().getDeclaredFields()) {
            if (!Modifier.isStatic(field.getModifiers())) {
                found++;
                field.setAccessible(true);
                found += field.getType().isPrimitive() ? 0 : count(field.get(one), seen);
            }
        }
        return found;
    }

    private static void calls() {
        com.sun.management.ThreadMXBean threads = (com.sun.management.ThreadMXBean) ManagementFactory.getThreadMXBean();
        OrderGauge gauge = Due.with("order 6:0<4,0<5,1<3,1<5,2<3,2<4;row 012345;");
        Due.tell(gauge, 1, "order 2:0<1;");
        int[][] args = {{0, 1, 1, 2, 0}, {0, 2, 5000, 0, 0}, {0, 0, 0, 1, 0}, {-1, 9, 9, 9, 9}, {1, 1, 0, 2, 0}};
        long made = Long.MAX_VALUE;
        // The first round loads what the calls need of the machine itself.
        for (int round = 0; round < 3; round++) {
            long had = threads.getThreadAllocatedBytes(Thread.currentThread().getId());
            for (String name : Calls.NAMES) {
                for (int[] v : args) {
                    Calls.toGauge(gauge, name, v);
                }
            }
            made = Math.min(made, threads.getThreadAllocatedBytes(Thread.currentThread().getId()) - had);
        }
        System.out.println("calls of one round made " + made + " bytes");
        DUE.holds("calls make nothing", made < 512);
    }
}
