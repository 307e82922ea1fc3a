import com.sun.management.ThreadMXBean;
import java.lang.management.ManagementFactory;
import java.lang.reflect.Array;
import java.lang.reflect.Field;
import java.lang.reflect.Modifier;
import java.util.ArrayDeque;
import java.util.Collections;
import java.util.Deque;
import java.util.IdentityHashMap;
import java.util.Set;

/**
 * All calls of one run live in one room of objects, fields and elements: the constructor makes few enough that a run
 * of constructors alone would fit, and the calls make none.
 */
public final class RoomTest {
    private static final int CALLS = 512, MOST_OBJECTS = 600_000, MOST_PARTS = 7_300_000;
    private static final int ROUNDS = 8;

    private final Set<Object> made = Collections.newSetFromMap(new IdentityHashMap<>());
    private final Deque<Object> open = new ArrayDeque<>();
    private int parts;

    public static void main(String[] args) throws IllegalAccessException {
        constructorMakesLittle();
        callsMakeNothing();
        Due.end("RoomTest");
    }

    private static void constructorMakesLittle() throws IllegalAccessException {
        RoomTest room = new RoomTest();
        room.walk(new LuckJars());
        int objects = room.made.size();
        Due.is("constructor's objects: " + objects, objects * CALLS > MOST_OBJECTS ? 1 : 0, 0);
        Due.is("their fields and elements: " + room.parts, room.parts * CALLS > MOST_PARTS ? 1 : 0, 0);
    }

    private void walk(Object from) throws IllegalAccessException {
        meet(from);
        while (!open.isEmpty()) {
            Object one = open.remove();
            if (one.getClass().isArray()) {
                elements(one);
            } else {
                fields(one);
            }
        }
    }

    private void meet(Object one) {
        if (one != null && made.add(one)) {
            open.add(one);
        }
    }

    private void elements(Object array) {
        parts += Array.getLength(array);
        for (int k = 0; !array.getClass().getComponentType().isPrimitive() && k < Array.getLength(array); k++) {
            meet(Array.get(array, k));
        }
    }

    private void fields(Object one) throws IllegalAccessException {
        for (Field field : one.getClass().getDeclaredFields()) {
            if (!Modifier.isStatic(field.getModifiers())) {
                parts++;
                field.setAccessible(true);
                if (!field.getType().isPrimitive()) {
                    meet(field.get(one));
                }
            }
        }
    }

    private static void callsMakeNothing() {
        ThreadMXBean threads = (ThreadMXBean) ManagementFactory.getThreadMXBean();
        LuckJars x = Due.placed("h3405 w2311 g1618 k4215 o1922 c2309 h0100");
        x.row(0, 4);
        long thread = Thread.currentThread().getId();
        long sum = 0;
        long least = Long.MAX_VALUE;
        // The least of some rounds: what Java itself makes at a method's first call is not the program's.
        for (int round = 0; round < ROUNDS; round++) {
            long before = threads.getThreadAllocatedBytes(thread);
            sum += everyCall(x);
            least = Math.min(least, threads.getThreadAllocatedBytes(thread) - before);
        }
        Due.is("bytes that every call by itself made (sum " + sum + ")", least, 0);
    }

    private static long everyCall(LuckJars x) {
        long sum = x.row(1, 40) + x.lay(1, 3, 9) + x.at(1, 3) + x.copy(1, 0, 1, 1, 39) + x.mean(1) + x.tear(1);
        sum += x.text(1, 60) + x.put(1, 3, 104) + x.fault(1) + x.fault(0) + x.tear(1) + x.place(1) + x.place(0);
        sum += x.house(3, 4) + x.mark(5, 5) + x.worth(4, 99) + x.day() + x.spring() + x.lend(0, 1, 2) + x.leave(0, 5);
        sum += x.take(1, 5) + x.leave(0, 99) + x.keep(0) + x.keep(2) + x.lots(20, 99) + x.on(2) + x.undo(2) + x.on(1);
        sum += x.works() + x.later(2, 60) + x.when(6) + x.lacks(6) + x.share() + x.best() + x.lending(4);
        sum += x.greedy(40) + x.kinds(0, 0) + x.test(0, 0) + x.jars(3, 0) + x.duel(0, 1, 6) + x.odds(3, 5) + x.mid(7);
        sum += x.asked() + x.upper() + x.lower() + x.count(6) + x.finding() + x.findings(1);
        return sum + x.digest();
    }
}
