import java.lang.management.ManagementFactory;
import java.lang.reflect.Array;
import java.lang.reflect.Field;
import java.lang.reflect.Modifier;
import java.util.ArrayDeque;
import java.util.Deque;
import java.util.IdentityHashMap;
import java.util.Map;

/** A new object is small, and no call makes anything: all runs live in one room. */
public final class RoomTest {
    private static int wrong = 0;

    public static void main(String[] args) throws IllegalAccessException {
        size();
        for (int i = 0; i < 3; i++) play(new RiverGauge());
        RiverGauge x = new RiverGauge();
        com.sun.management.ThreadMXBean threads = (com.sun.management.ThreadMXBean) ManagementFactory.getThreadMXBean();
        long thread = Thread.currentThread().getId();
        long before = threads.getThreadAllocatedBytes(thread);
        play(x);
        long made = threads.getThreadAllocatedBytes(thread) - before;
        check(made < 4096, "a run of calls made " + made + " bytes");
        System.out.println(wrong == 0 ? "the room is as due" : "too much room");
        if (wrong != 0) System.exit(1);
    }

    private static void check(boolean good, String what) {
        if (good) return;
        wrong++;
        System.out.println(what);
    }

    private static void size() throws IllegalAccessException {
        Map<Object, Boolean> seen = new IdentityHashMap<>();
        Deque<Object> open = new ArrayDeque<>();
        open.add(new RiverGauge());
        long held = 0;
        while (!open.isEmpty()) {
            Object one = open.poll();
            if (seen.put(one, true) != null) continue;
            if (one.getClass().isArray()) {
                held += Array.getLength(one);
                for (int i = 0; i < Array.getLength(one); i++) {
                    if (!one.getClass().getComponentType().isPrimitive()) open.add(Array.get(one, i));
                }
                continue;
            }
            for (Field field : one.getClass().getDeclaredFields()) {
                if (Modifier.isStatic(field.getModifiers())) continue;
                held++;
                field.setAccessible(true);
                if (!field.getType().isPrimitive()) open.add(field.get(one));
            }
        }
        check(held < 7000, "a new object holds " + held + " fields and elements");
        check(seen.size() < 120, "a new object is " + seen.size() + " objects and arrays");
        System.out.println("a new object: " + seen.size() + " objects and arrays, " + held + " fields and elements");
    }

    private static void play(RiverGauge x) {
        x.post(0);
        x.post(5);
        x.go(1000);
        x.beside(0, 1);
        x.feed(4, 0x30393e61L);
        x.standard(0, 10);
        x.feed(3, 0x303e66L);
        x.standard(2, 10);
        x.feed(3, 0x303e67L);
        x.standard(1, 10);
        for (int i = 0; i < 100; i++) x.height(i % 2, 3 * i, i % 2, 100 + i);
        for (int i = 0; i < 50; i++) x.measure(i % 2, 3 * i, 10 * i, 10);
        for (int i = 0; i < 8; i++) x.base(0, i, 20 * i, 30 * i);
        for (int i = 0; i < 40; i++) x.under(0, i % 2, i, i + 9, i);
        for (int i = 0; i < 18; i++) {
            x.zeroAt(0, 4, i);
            x.isStruck(i, 1000 + i);
            x.heightAt(0, i, 1000);
            x.points(0, i, 1000 + i);
            x.flowAt(0, i, 40 * i);
            x.breaks(0, i % 4);
            x.shift(0, 0);
            x.put(i % 3);
            x.judge(0);
            x.gap(0, i, i % 4);
            x.peak(0, 0, 9999, 1000);
            x.often(0, i);
            x.agree(0, 1, 0, 299, i % 3);
            x.next(0);
            x.publish(0, 6 * i);
            x.mend();
        }
    }
}
