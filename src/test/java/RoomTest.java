import java.lang.management.ManagementFactory;
import java.lang.reflect.Array;
import java.lang.reflect.Field;
import java.lang.reflect.Modifier;
import java.util.IdentityHashMap;
import java.util.Map;

/** Calls make no objects, and a new object is small: all calls of a run share one room. */
public final class RoomTest {
    private static long elements = 0;
    private static int sum = 0;

    public static void main(String[] args) throws Exception {
        Map<Object, Boolean> seen = new IdentityHashMap<>();
        measure(new StencilCuts(), seen);
        System.out.println("a new object: " + seen.size() + " objects and arrays, " + elements
                + " fields and elements");
        Check.holds("few objects", seen.size() <= 120);
        Check.holds("few elements", elements <= 8000);

        com.sun.management.ThreadMXBean meter =
                (com.sun.management.ThreadMXBean) ManagementFactory.getThreadMXBean();
        StencilCuts x = new StencilCuts();
        useAll(x, 0);
        long before = meter.getCurrentThreadAllocatedBytes();
        for (int k = 1; k <= 200; k++) {
            useAll(x, k);
        }
        long made = meter.getCurrentThreadAllocatedBytes() - before;
        System.out.println("200 rounds of all calls made " + made + " bytes (" + sum + ")");
        Check.holds("calls make nothing", made < 20000);
        Check.finish();
    }

    private static void useAll(StencilCuts x, int k) {
        sum += x.sheet(3 + k % 8, 10);
        for (int layer = 0; layer < 4; layer++) {
            for (int y = 0; y < 10; y++) {
                sum += x.row(layer, y, (k * 7919 + y * 104729 + layer * 31) & 1023);
            }
            sum += x.cut(layer, 1, 1, 1) + x.cell(layer, 1, 1, 2) + x.layer(layer, 5);
            sum += x.island(layer, 0, 1) + x.bridge(layer, 0, 4);
            sum += x.knife(layer, 2) + x.loop(layer, 1, 2);
        }
        sum += x.wish(2, 2, k % 5) + x.paint(2, 2) + x.wrong(3210) + x.best(0);
        sum += x.image(k % 2) + x.restore(k % 2) + x.count(4);
    }

    private static void measure(Object object, Map<Object, Boolean> seen) throws Exception {
        if (object == null || seen.put(object, true) != null) {
            return;
        }
        Class<?> type = object.getClass();
        if (type.isArray()) {
            elements += Array.getLength(object);
            for (int k = 0; !type.getComponentType().isPrimitive() && k < Array.getLength(object); k++) {
                measure(Array.get(object, k), seen);
            }
            return;
        }
        for (Field field : type.getDeclaredFields()) {
            if (Modifier.isStatic(field.getModifiers())) {
                continue;
            }
            elements++;
            if (!field.getType().isPrimitive()) {
                field.setAccessible(true);
                measure(field.get(object), seen);
            }
        }
    }
}
