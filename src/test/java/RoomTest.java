import java.lang.management.ManagementFactory;
import java.lang.reflect.Array;
import java.lang.reflect.Field;
import java.lang.reflect.Modifier;
import java.util.ArrayDeque;
import java.util.Collections;
import java.util.Deque;
import java.util.IdentityHashMap;
import java.util.Set;

/** An object takes its room when it is made, little enough, and its calls take none. */
public final class RoomTest {
    private static final int MOST_OBJECTS = 80;
    private static final int MOST_CELLS = 9000;

    public static void main(String[] args) throws IllegalAccessException {
        Check check = new Check("RoomTest");
        check.part("room");
        UnsaidScales x = new UnsaidScales();
        long[] room = roomOf(x);
        System.out.println("a new object: " + room[0] + " objects and arrays, " + room[1] + " fields and elements");
        check.that("objects " + room[0], room[0] <= MOST_OBJECTS);
        check.that("fields and elements " + room[1], room[1] <= MOST_CELLS);
        // 512 calls that all make an object must still fit.
        check.that("objects of 512", 512 * room[0] <= 600_000);
        check.that("fields and elements of 512", 512 * room[1] <= 7_300_000);
        callMuch(x);
        long[] later = roomOf(x);
        check.same("objects behind many calls", later[0], room[0]);
        check.same("fields and elements behind many calls", later[1], room[1]);
        check.that("calls make nothing", madeByCalls(x) < 4096);
        check.end();
    }

    private static void callMuch(UnsaidScales x) {
        Shops.read(x, "s0 20;s3 3;p9 9 9 9;p1 2 3 4;p0 0 0 0;p5 5 5 5;g0 0 1;b1;b3;b9;b27;b60;");
        for (int i = 0; i < 30; i++) {
            x.day();
            x.tells(i % 4, (i + 1) % 4, i % 3);
            x.keeps(i % 4, i % 4);
            x.weighs(i % 4, (i + 1) % 4);
            for (int what = 0; what < 10; what++) {
                x.now(what);
                x.level(i % 4, (i + 2) % 4, what);
                x.can(i % 4, what);
                x.laws(i % 4, what);
                x.brass(i, what);
                x.odds(i % 4, (i + 1) % 4, i % 4, i % 10, what);
                x.rate(what, i % 4);
            }
            x.when(i % 4, (i + 1) % 4);
            x.shows(i % 4, i, 1);
            x.saw(i % 4, i);
            x.keep(i % 2);
            x.back(i % 2);
            x.undo();
            x.forgets();
        }
        x.clean();
        x.type('x');
        x.shop();
        x.clear();
    }

    /** Bytes that the third of three rounds made; the first two warm the machine up. */
    private static long madeByCalls(UnsaidScales x) {
        com.sun.management.ThreadMXBean threads =
            (com.sun.management.ThreadMXBean) ManagementFactory.getThreadMXBean();
        long made = 0;
        for (int round = 0; round < 3; round++) {
            long ahead = threads.getThreadAllocatedBytes(Thread.currentThread().getId());
            callMuch(x);
            made = threads.getThreadAllocatedBytes(Thread.currentThread().getId()) - ahead;
        }
        return made;
    }

    private static long[] roomOf(Object root) throws IllegalAccessException {
        Set<Object> known = Collections.newSetFromMap(new IdentityHashMap<>());
        Deque<Object> open = new ArrayDeque<>();
        open.add(root);
        known.add(root);
        long cells = 0;
        while (!open.isEmpty()) {
            Object object = open.remove();
            if (object.getClass().isArray()) {
                int length = Array.getLength(object);
                cells += length;
                for (int i = 0; i < length && !object.getClass().getComponentType().isPrimitive(); i++) {
                    reach(Array.get(object, i), known, open);
                }
                continue;
            }
            for (Field field : object.getClass().getDeclaredFields()) {
                if (!Modifier.isStatic(field.getModifiers())) {
                    cells++;
                    field.setAccessible(true);
                    if (!field.getType().isPrimitive()) {
                        reach(field.get(object), known, open);
                    }
                }
            }
        }
        return new long[] {known.size(), cells};
    }

    private static void reach(Object object, Set<Object> known, Deque<Object> open) {
        if (object != null && known.add(object)) {
            open.add(object);
        }
    }
}
