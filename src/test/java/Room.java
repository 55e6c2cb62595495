import java.lang.management.ManagementFactory;
import java.lang.reflect.Array;
import java.lang.reflect.Field;
import java.lang.reflect.Modifier;
import java.util.ArrayDeque;
import java.util.Collections;
import java.util.IdentityHashMap;
import java.util.Set;

/** How much room a run takes: what an object is made of, and that its calls make nothing more. */
public final class Room {
    private static final int MOST_OBJECTS = 600_000 / 512;
    private static final int MOST_ELEMENTS = 7_300_000 / 512 * 4;
    private static final int CALLS = 512;
    private static long sum = 0;

    private Room() {
    }

    public static void main(String[] args) throws ReflectiveOperationException {
        Check check = new Check();
        PlaceMender x = new PlaceMender();
        countRoom(check, x);
        com.sun.management.ThreadMXBean threads =
                (com.sun.management.ThreadMXBean) ManagementFactory.getThreadMXBean();
        dearCalls(x);
        PlaceMender y = new PlaceMender();
        long before = threads.getCurrentThreadAllocatedBytes();
        for (int i = 0; i < CALLS; i++) {
            dearCalls(y);
        }
        long made = threads.getCurrentThreadAllocatedBytes() - before;
        check.holds("calls make no objects, but " + made + " bytes were taken", made < 16L * CALLS);
        check.holds("the calls answered", sum != 0);
        countRoom(check, y);
        check.end();
    }

    /** The calls that reckon most, on images with many rings. */
    private static void dearCalls(PlaceMender x) {
        for (int i = 0; i < 2; i++) {
            sum += x.feed(0x00010203, 0x04050607, 0x08090a0b, 0x0c0d0e0f, 0x10111213);
            sum += x.feed(0x14151617, 0x18191a1b, 0x1c1d1e1f, 0x20212223, 0x24252627);
            sum += i == 0 ? x.old(40) : x.fresh(0);
        }
        sum += x.feed(0x24252621, 0x22231e1f, 0x201b1c1d, 0x18191a15, 0x16171213);
        sum += x.feed(0x140f1011, 0x0c0d0e09, 0x0a0b0607, 0x08030405, 0x00010227);
        sum += x.fresh(40) + x.fewest(3) + x.needs() + x.best(0) + x.best(1) + x.turned() + x.least() + x.suffix(3);
        sum += x.burn() + x.take() + x.cuts(1) + x.cuts(2) + x.cuts(3) + x.twice(2, 3) + x.go(3) + x.cut(2, 1);
        sum += x.forget() + x.fits(2) + x.boot() + x.go(400) + x.undo(2) + x.image(0) + x.restore(0) + x.patch(7);
        sum += x.due(3, 4) + x.digest(3) + x.ring(1, 0) + x.widest(1) + x.share(1) + x.hazard(0) + x.spoil(3, 4);
        sum += x.load(0) + x.fault(1) + x.unlike(3) + x.run(3, 2);
    }

    private static void countRoom(Check check, Object root) throws ReflectiveOperationException {
        Set<Object> seen = Collections.newSetFromMap(new IdentityHashMap<>());
        ArrayDeque<Object> open = new ArrayDeque<>();
        open.add(root);
        seen.add(root);
        long elements = 0;
        while (!open.isEmpty()) {
            Object at = open.remove();
            if (at.getClass().isArray()) {
                elements += Array.getLength(at);
                for (int i = 0; i < Array.getLength(at) && !at.getClass().getComponentType().isPrimitive(); i++) {
                    visit(Array.get(at, i), seen, open);
                }
                continue;
            }
            for (Field field : at.getClass().getDeclaredFields()) {
                if (!Modifier.isStatic(field.getModifiers())) {
                    elements++;
                    field.setAccessible(true);
                    if (!field.getType().isPrimitive()) {
                        visit(field.get(at), seen, open);
                    }
                }
            }
        }
        check.holds("few objects: " + seen.size(), seen.size() <= MOST_OBJECTS);
        check.holds("few elements: " + elements, elements <= MOST_ELEMENTS);
        System.out.println("one object: " + seen.size() + " objects and arrays, " + elements + " fields and elements");
    }

    private static void visit(Object next, Set<Object> seen, ArrayDeque<Object> open) {
        if (next != null && seen.add(next)) {
            open.add(next);
        }
    }
}
