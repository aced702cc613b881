import java.lang.management.ManagementFactory;
import java.lang.reflect.Array;
import java.lang.reflect.Field;
import java.lang.reflect.Modifier;
import java.util.ArrayDeque;
import java.util.Collections;
import java.util.IdentityHashMap;
import java.util.Set;

/** The room that one object takes, and that its calls make nothing more. */
public final class RoomTest {
    /** Some 600,000 objects and 7.3 million elements are there for one run of 512 calls. */
    private static final int MOST_OBJECTS = 60, MOST_ELEMENTS = 9000;
    /** As many rounds of all calls as one object is promised for: 512 calls. */
    private static final int ROUNDS = 14;

    private static int objects = 0;
    private static int elements = 0;

    public static void main(String[] args) throws IllegalAccessException {
        NeighbourWires x = new NeighbourWires();
        measure(x);
        Due.dueTrue(objects + " objects are few", objects <= MOST_OBJECTS);
        Due.dueTrue(elements + " elements are few", elements <= MOST_ELEMENTS);
        callAll(x);
        NeighbourWires[] others = new NeighbourWires[20];
        for (int i = 0; i < others.length; i++) {
            others[i] = new NeighbourWires();
        }
        long had = allocated();
        for (int i = 0; i < others.length * ROUNDS; i++) {
            callAll(others[i / ROUNDS]);
        }
        long made = allocated() - had;
        Due.dueTrue("all calls, in many rounds, made " + made + " bytes, due are none", made < 20000);
        Due.finish();
    }

    private static long allocated() {
        com.sun.management.ThreadMXBean threads =
            (com.sun.management.ThreadMXBean) ManagementFactory.getThreadMXBean();
        return threads.getCurrentThreadAllocatedBytes();
    }

    private static void measure(Object first) throws IllegalAccessException {
        Set<Object> seen = Collections.newSetFromMap(new IdentityHashMap<>());
        ArrayDeque<Object> open = new ArrayDeque<>();
        open.add(first);
        while (!open.isEmpty()) {
            Object o = open.remove();
            if (!seen.add(o)) {
                continue;
            }
            objects++;
            if (o.getClass().isArray()) {
                elements += Array.getLength(o);
                for (int i = 0; !o.getClass().getComponentType().isPrimitive() && i < Array.getLength(o); i++) {
                    open.add(Array.get(o, i));
                }
                continue;
            }
            for (Field f : o.getClass().getDeclaredFields()) {
                if (!Modifier.isStatic(f.getModifiers())) {
                    elements++;
                    f.setAccessible(true);
                    if (!f.getType().isPrimitive()) {
                        open.add(f.get(o));
                    }
                }
            }
        }
    }

    /** "wires 8;" and "step 0 255 40;" with a blank, then each call once. */
    private static void callAll(NeighbourWires x) {
        x.feed(8604534343116798011L);
        x.feed(Due.eightOf('s', 't', 'e', 'p', ' ', '0', ' ', '2'));
        x.feed(Due.eightOf('5', '5', ' ', '4', '0', ';', ' ', ' '));
        x.text();
        x.fault();
        x.order(76543210);
        x.shield(3, true);
        x.at(0, 0);
        x.change(0, 85, 0);
        x.slow(0, 85, 3);
        x.row(0);
        x.best(1);
        x.shields(2, 1);
        x.turned(3, 0);
        x.empty();
        x.send(1);
        x.sent(0);
        x.book(0);
        x.word(0, 60);
        x.place(1, 200);
        x.slowest(0);
        x.ways(2, 7);
        x.kept(2, 4, 1);
        x.bits(3);
        x.encode(2, 3, 12345678, 8);
        x.decode(2, 3, 0, 1);
        x.sheet(0, 2, 40);
        x.lay(0, 3, 4);
        x.read(0, 2, 0, 9);
        x.torn();
        x.count(6);
        x.end(0);
        x.text();
        x.greatest(1, 1);
    }
}
