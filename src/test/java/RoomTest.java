import java.lang.management.ManagementFactory;
import java.lang.reflect.Array;
import java.lang.reflect.Field;
import java.lang.reflect.Modifier;
import java.util.Collections;
import java.util.IdentityHashMap;
import java.util.Set;

/** All calls of one run live in one room: an object takes a small part of it, and its calls take nothing. */
public final class RoomTest {
    // A 512th part of the room.
    private static final int OBJECTS_A_CALL = 600_000 / 512;
    private static final int FIELDS_A_CALL = 7_300_000 / 512;

    private static int objects = 0;
    private static int fields = 0;

    public static void main(String[] args) throws ReflectiveOperationException {
        Due.part("room of an object");
        walk(new CardClub(), Collections.newSetFromMap(new IdentityHashMap<>()));
        System.out.println(objects + " objects and arrays, " + fields + " fields and elements");
        if (objects > OBJECTS_A_CALL || fields > FIELDS_A_CALL) {
            Due.wrong("a new object takes more than a 512th part of the room");
        }
        Due.part("room of the calls");
        callAll(new CardClub());
        CardClub x = new CardClub();
        long before = allocated();
        long ofAsking = allocated() - before;
        before = allocated();
        callAll(x);
        long bytes = allocated() - before - ofAsking;
        System.out.println(bytes + " bytes by the dearest calls");
        if (bytes > 2000) {
            Due.wrong("the calls made objects: " + bytes + " bytes");
        }
        Due.endOfTest();
    }

    private static long allocated() {
        return ((com.sun.management.ThreadMXBean) ManagementFactory.getThreadMXBean()).getCurrentThreadAllocatedBytes();
    }

    private static void walk(Object o, Set<Object> seen) throws ReflectiveOperationException {
        if (o == null || !seen.add(o)) {
            return;
        }
        objects++;
        if (o.getClass().isArray()) {
            fields += Array.getLength(o);
            for (int i = 0; i < Array.getLength(o) && !o.getClass().getComponentType().isPrimitive(); i++) {
                walk(Array.get(o, i), seen);
            }
            return;
        }
        for (Field f : o.getClass().getDeclaredFields()) {
            if (!Modifier.isStatic(f.getModifiers())) {
                fields++;
                f.setAccessible(true);
                if (!f.getType().isPrimitive()) {
                    walk(f.get(o), seen);
                }
            }
        }
    }

    private static void callAll(CardClub x) {
        for (int m = 0; m < 40; m++) {
            x.member(m % 16, m, -1);
            x.feed(0x6e6f7420, 0x616e7920, 0x6f722061, 0x6e790000, 0);
            x.end(14);
            x.wish(m);
        }
        x.feed(0x7a6f6e65, 0x20312035, 0x30302039, 0x30300000, 0);
        x.end(14);
        x.rates(0);
        for (int o = 0; o < 12; o++) {
            x.offer(o, o, -1);
        }
        for (int i = 0; i < 20; i++) {
            x.rings();
            for (int m = 0; m < 8; m++) {
                x.list(m);
            }
            x.give();
            x.ask(i);
            x.arrive(i, 0);
            x.state(i, 0, 0);
            x.about(i, 5);
            for (int k = 0; k < 8; k++) {
                x.stamps(k, 7 + k, 50);
            }
            x.pay(i, 500);
        }
        x.close(0);
        x.leave(0);
    }
}
