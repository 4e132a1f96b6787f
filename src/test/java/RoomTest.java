import com.sun.management.ThreadMXBean;
import java.lang.management.ManagementFactory;
import java.lang.reflect.Array;
import java.lang.reflect.Field;
import java.lang.reflect.Modifier;
import java.util.ArrayDeque;
import java.util.Collections;
import java.util.Deque;
import java.util.IdentityHashMap;
import java.util.Set;

/** What an object takes of the room: its objects, its fields and elements, and that calls add nothing. */
public final class RoomTest {
    private static final Check CHECK = new Check();
    // So that an object is asked less than 512 times.
    private static final int TIMES = 18;
    private static final String DEAREST = "years 4;days 5;quantity 8;day 0 4;paid 80;made last;rest 3;carried;"
        + "index 30;surcharge 3;price 0 8;price 2 33;free seller;";

    public static void main(String[] args) {
        CHECK.at("a new object");
        CHECK.holds("is small", elements(new TakeOrPay()) < 2000);
        CHECK.at("after every call");
        TakeOrPay x = Check.told(DEAREST);
        everyCall(x, 0);
        long before = elements(x);
        System.out.println(before + " fields and elements after every call");
        CHECK.holds("far below 7.3 million", before < 150_000);
        ThreadMXBean bean = (ThreadMXBean) ManagementFactory.getThreadMXBean();
        long bytes = bean.getCurrentThreadAllocatedBytes();
        for (int i = 1; i < TIMES; i++) {
            everyCall(x, i);
        }
        long made = bean.getCurrentThreadAllocatedBytes() - bytes;
        System.out.println(made + " bytes were made by " + TIMES + " times every call");
        CHECK.holds("calls make nothing", made < 20_000);
        CHECK.due("calls keep nothing", elements(x), before);
        CHECK.finish();
    }

    /** Every call that reckons; a day is shut or opened each time, so that nothing is known ahead. */
    private static void everyCall(TakeOrPay x, int i) {
        x.shut(i % 20, i % 4 - 1 < 0 ? -4 : i % 4 - 1);
        x.whole(0, 0);
        x.units(0);
        for (int word = 0; word < 8; word++) {
            x.without(word, 0, 0);
        }
        x.offers(0);
        x.jumps(3, 12, 8, 0, 0);
        x.jumps(3, 12, 7, 0, 1);
        x.best(0, 0, 12, 8, 0);
        x.worth(0, 0, 12, 5, 0, 0);
        x.worthOf(0, 0, 12, 4, 0, 0, 0);
        x.draw(i);
        x.came(0);
        x.knew(1);
        x.row(6);
        x.sheet(0, 2, 48);
        x.lay(0, 0, 1);
        x.back();
        x.read(0, 2, 0, 1);
    }

    private static long elements(Object root) {
        Set<Object> seen = Collections.newSetFromMap(new IdentityHashMap<>());
        Deque<Object> open = new ArrayDeque<>();
        open.add(root);
        long sum = 0;
        while (!open.isEmpty()) {
            Object o = open.poll();
            if (!seen.add(o)) {
                continue;
            }
            if (o.getClass().isArray()) {
                sum += Array.getLength(o);
                for (int i = 0; o instanceof Object[] && i < Array.getLength(o); i++) {
                    open.add(Array.get(o, i));
                }
                continue;
            }
            for (Field f : o.getClass().getDeclaredFields()) {
                if (!Modifier.isStatic(f.getModifiers())) {
                    sum++;
                    follow(o, f, open);
                }
            }
        }
        return sum;
    }

    private static void follow(Object o, Field f, Deque<Object> open) {
        if (f.getType().isPrimitive()) {
            return;
        }
        f.setAccessible(true);
        try {
            if (f.get(o) != null) {
                open.add(f.get(o));
            }
        } catch (IllegalAccessException e) {
            throw new IllegalStateException(e);
        }
    }
}
